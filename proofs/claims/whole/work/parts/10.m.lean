def f_X5_isPlace (x0 : Int32) : Int32 :=
  if x0 < (0 : Int32) then
    (0 : Int32)
  else
    if (4 : Int32) ≤ x0 then
      (0 : Int32)
    else
      (1 : Int32)
abbrev rm_X5_isPlace : Room := { frames := 0, cells := 0, slots := 0, locals := 0 }
set_option maxHeartbeats 4000000 in
set_option maxRecDepth 100000 in
theorem c_X5_isPlace (l : Launch) (D : va_G) (cI cJ : ClassId) (ad : Nat → Nat) (sz : Nat)  (x0 : Int32) {o_res : Int32} (hf : f_X5_isPlace x0 = o_res) : CtZ l yX5_isPlace wsX5_isPlace rm_X5_isPlace D cI cJ [.int x0] [] sz o_res [] := by
  refine ctZ_of (cc := cX5_isPlace) (maxL := 1) (by decide) rfl (Nat.le_of_ble_eq_true rfl) ?_
  intro p e s m below meth c Q A hx hb hml hown hts hK hN hA hret ls hl hP hD hS
  obtain ⟨args, hargs⟩ : ∃ a : Array Value, a = [.int x0].toArray := ⟨_, rfl⟩
  rw [← hargs] at hts hret ⊢
  have hown : s.vm.findClass RX5 = some m.cls := hown
  have hl : lv_has ls 1 [(0, .int x0)] := hl
  unfold f_X5_isPlace at hf
  refine lv_iload_n hx hb dX5_isPlace_0 rfl (lv_at hl 0 rfl) ?_
  refine lv_if_lt (tgt := 13) hx hb dX5_isPlace_1 (by decide) (fun c1 => ?_) (fun c1 => ?_)
  · have hf := oo_t hf c1
    refine lv_iconst (v := (0 : Int32)) hx hb dX5_isPlace_13 (by decide) ?_
    cases hf
    exact hret _ _ _ _ (Or.inl rfl) dX5_isPlace_14 hP hD hS
  · have hf := oo_f hf c1
    refine lv_iload_n hx hb dX5_isPlace_4 rfl (lv_at hl 0 rfl) ?_
    refine lv_iconst (v := (4 : Int32)) hx hb dX5_isPlace_5 (by decide) ?_
    refine lv_icmp_ge (tgt := 13) hx hb dX5_isPlace_6 (by decide) (fun c2 => ?_) (fun c2 => ?_)
    · have hf := oo_t hf c2
      refine lv_iconst (v := (0 : Int32)) hx hb dX5_isPlace_13 (by decide) ?_
      cases hf
      exact hret _ _ _ _ (Or.inl rfl) dX5_isPlace_14 hP hD hS
    · have hf := oo_f hf c2
      refine lv_iconst (v := (1 : Int32)) hx hb dX5_isPlace_9 (by decide) ?_
      refine lv_goto (tgt := 14) hx hb dX5_isPlace_10 (by decide) ?_
      cases hf
      exact hret _ _ _ _ (Or.inr rfl) dX5_isPlace_14 hP hD hS
def f_X0_linksAt (bn_links : Nat → Int32) (x1 : Int32) : Option (Int32) :=
  if (f_X5_isPlace x1) = (0 : Int32) then
    some (0 : Int32)
  else
    if x1 < 0 ∨ 4 ≤ (x1).toNatClampNeg then none else
    some (bn_links (x1).toNatClampNeg)
abbrev rm_X0_linksAt : Room := { frames := 1, cells := 0, slots := 0, locals := 20 }
set_option maxHeartbeats 4000000 in
set_option maxRecDepth 100000 in
theorem c_X0_linksAt (l : Launch) (D : va_G) (cI cJ : ClassId) (ad : Nat → Nat) (sz : Nat) {bn_links : Nat → Int32} (x1 : Int32) {o_res : Int32} (hf : f_X0_linksAt bn_links x1 = some o_res) : CtI l yX0_linksAt wsX0_linksAt rm_X0_linksAt D cI cJ [.ref (ad 12), .int x1] (wdB cI cJ ad bn_links) sz o_res (wdB cI cJ ad bn_links) := by
  refine ctI_of (cc := cX0_linksAt) (maxL := 2) (by decide) rfl (Nat.le_of_ble_eq_true rfl) ?_
  intro p e s m below meth c Q A hx hb hml hown hts hK hN hA hret ls hl hP hD hS
  obtain ⟨args, hargs⟩ : ∃ a : Array Value, a = [.ref (ad 12), .int x1].toArray := ⟨_, rfl⟩
  rw [← hargs] at hts hret ⊢
  have hown : s.vm.findClass RX0 = some m.cls := hown
  have hl : lv_has ls 2 [(0, .ref (ad 12)), (1, .int x1)] := hl
  have hin_X0 : ∀ w ∈ wsX00, w ∈ wsX0_linksAt := fun _ h => List.mem_cons_of_mem _ (List.mem_append_right _ h)
  have fl_9 : (Cond.fieldLink RX0 9 "FoldedWays$Bundles" "links" "[I").before args s = true := hat hts 1 rfl
  unfold f_X0_linksAt at hf
  refine lv_iload_n hx hb dX0_linksAt_0 rfl (lv_at hl 1 rfl) ?_
  have F : Fr D A _ [] [] (wdB cI cJ ad bn_links) := fr_nil hP hD hS hA
  refine kZ F hS (rN (As := [.int x1]) (rest := []) ⟨hx, hb, hml, hown, hts⟩ hK hN F (c_X5_isPlace l D cI cJ ad _  x1 (o_res := (f_X5_isPlace x1)) rfl) ⟨va_cnB 1 hts ggX0_linksAt_X5_isPlace rfl rfl rfl hN.2.2.1 (hat hts 3 rfl) (by decide +kernel) ⟨Nat.le_of_ble_eq_true rfl, Nat.le_of_ble_eq_true rfl⟩, hat hts 2 rfl, trivial⟩ rfl hl.1 rfl (Nat.le_of_ble_eq_true rfl) dX0_linksAt_1 ⟨Nat.zero_le _, Nat.zero_le _⟩) (fun H locs hb1 hP hD hS => ?_)
  refine lv_if_eq (tgt := 16) hx hb dX0_linksAt_4 (by decide) (fun c2 => ?_) (fun c2 => ?_)
  · have hf := oo_t hf c2
    refine lv_iconst (v := (0 : Int32)) hx hb dX0_linksAt_16 (by decide) ?_
    cases hf
    exact hret _ _ _ _ dX0_linksAt_17 hP hD hS
  · have hf := oo_f hf c2
    refine lv_aload_n hx hb dX0_linksAt_7 rfl (lv_at hl 0 rfl) ?_
    refine va_get (ci := 0) (v := .ref (ad 13)) (C := RX0) (T := TX0) (N := 1) hx hb hts hin_X0 hown hK hP 0 rfl rfl 0 (by decide) fl_9 (fun _ h9 => h9) rfl dX0_linksAt_8 ?_
    refine lv_iload_n hx hb dX0_linksAt_11 rfl (lv_at hl 1 rfl) ?_
    obtain ⟨g3, hf⟩ := oo_g hf
    refine va_iald hx hb hK hP 1 0 rfl rfl g3 dX0_linksAt_12 ?_
    refine lv_goto (tgt := 17) hx hb dX0_linksAt_13 (by decide) ?_
    cases hf
    exact hret _ _ _ _ dX0_linksAt_17 hP hD hS
def f_X0_isThere (bn_links : Nat → Int32) (x1 : Int32) : Option (Int32) :=
  Option.bind (f_X0_linksAt bn_links x1) fun r2 =>
  if r2 = (0 : Int32) then
    some (0 : Int32)
  else
    some (1 : Int32)
abbrev rm_X0_isThere : Room := { frames := 2, cells := 0, slots := 0, locals := 41 }
set_option maxHeartbeats 4000000 in
set_option maxRecDepth 100000 in
theorem c_X0_isThere (l : Launch) (D : va_G) (cI cJ : ClassId) (ad : Nat → Nat) (sz : Nat) {bn_links : Nat → Int32} (x1 : Int32) {o_res : Int32} (hf : f_X0_isThere bn_links x1 = some o_res) : CtZ l yX0_isThere wsX0_isThere rm_X0_isThere D cI cJ [.ref (ad 12), .int x1] (wdB cI cJ ad bn_links) sz o_res (wdB cI cJ ad bn_links) := by
  refine ctZ_of (cc := cX0_isThere) (maxL := 2) (by decide) rfl (Nat.le_of_ble_eq_true rfl) ?_
  intro p e s m below meth c Q A hx hb hml hown hts hK hN hA hret ls hl hP hD hS
  obtain ⟨args, hargs⟩ : ∃ a : Array Value, a = [.ref (ad 12), .int x1].toArray := ⟨_, rfl⟩
  rw [← hargs] at hts hret ⊢
  have hown : s.vm.findClass RX0 = some m.cls := hown
  have hl : lv_has ls 2 [(0, .ref (ad 12)), (1, .int x1)] := hl
  unfold f_X0_isThere at hf
  refine lv_aload_n hx hb dX0_isThere_0 rfl (lv_at hl 0 rfl) ?_
  refine lv_iload_n hx hb dX0_isThere_1 rfl (lv_at hl 1 rfl) ?_
  obtain ⟨r2, h1, hf⟩ := oo_b hf
  try dsimp only at hf
  have F : Fr D A _ (wdB cI cJ ad bn_links) (wdB cI cJ ad bn_links) (wdB cI cJ ad bn_links) := fr_self hP hD hS hA
  refine kI F hS (rV (q := (RX0, TX0, 1)) (As := [.int x1]) (rest := []) ⟨hx, hb, hml, hown, hts⟩ hK hN F (c_X0_linksAt l D cI cJ ad _ (bn_links := bn_links) x1 (o_res := r2) h1) (cwV 1 hts gX0_isThere_X0_linksAt rfl rfl rfl (by decide +kernel) ⟨Nat.le_of_ble_eq_true rfl, Nat.le_of_ble_eq_true rfl⟩) (ci := 0) rfl rfl rfl hl.1 rfl (Nat.le_of_ble_eq_true rfl) dX0_isThere_2 ⟨Nat.zero_le _, Nat.zero_le _⟩) (fun H locs hP hD hS => ?_)
  refine lv_if_eq (tgt := 12) hx hb dX0_isThere_5 (by decide) (fun c4 => ?_) (fun c4 => ?_)
  · have hf := oo_t hf c4
    refine lv_iconst (v := (0 : Int32)) hx hb dX0_isThere_12 (by decide) ?_
    cases hf
    exact hret _ _ _ _ (Or.inl rfl) dX0_isThere_13 hP hD hS
  · have hf := oo_f hf c4
    refine lv_iconst (v := (1 : Int32)) hx hb dX0_isThere_8 (by decide) ?_
    refine lv_goto (tgt := 13) hx hb dX0_isThere_9 (by decide) ?_
    cases hf
    exact hret _ _ _ _ (Or.inr rfl) dX0_isThere_13 hP hD hS
def f_X0_put (bn_links : Nat → Int32) (x1 : Int32) (x2 : Int32) : Option ((Nat → Int32)) :=
  if (f_X5_isPlace x1) = (0 : Int32) then
    some bn_links
  else
    if x1 < 0 ∨ 4 ≤ (x1).toNatClampNeg then none else
    some (upd bn_links (x1).toNatClampNeg x2)
abbrev rm_X0_put : Room := { frames := 1, cells := 0, slots := 0, locals := 20 }
set_option maxHeartbeats 4000000 in
set_option maxRecDepth 100000 in
theorem c_X0_put (l : Launch) (D : va_G) (cI cJ : ClassId) (ad : Nat → Nat) (sz : Nat) {bn_links : Nat → Int32} (x1 : Int32) (x2 : Int32) {o_bn_links : Nat → Int32} (hf : f_X0_put bn_links x1 x2 = some o_bn_links) : CtV l yX0_put wsX0_put rm_X0_put D cI cJ [.ref (ad 12), .int x1, .int x2] (wdB cI cJ ad bn_links) sz (wdB cI cJ ad o_bn_links) := by
  refine ctV_of (cc := cX0_put) (maxL := 3) (by decide) rfl (Nat.le_of_ble_eq_true rfl) ?_
  intro p e s m below meth c Q A hx hb hml hown hts hK hN hA hret ls hl hP hD hS
  obtain ⟨args, hargs⟩ : ∃ a : Array Value, a = [.ref (ad 12), .int x1, .int x2].toArray := ⟨_, rfl⟩
  rw [← hargs] at hts hret ⊢
  have hown : s.vm.findClass RX0 = some m.cls := hown
  have hl : lv_has ls 3 [(0, .ref (ad 12)), (1, .int x1), (2, .int x2)] := hl
  have hin_X0 : ∀ w ∈ wsX00, w ∈ wsX0_put := fun _ h => List.mem_cons_of_mem _ (List.mem_append_right _ h)
  have fl_9 : (Cond.fieldLink RX0 9 "FoldedWays$Bundles" "links" "[I").before args s = true := hat hts 1 rfl
  unfold f_X0_put at hf
  refine lv_iload_n hx hb dX0_put_0 rfl (lv_at hl 1 rfl) ?_
  have F : Fr D A _ [] [] (wdB cI cJ ad bn_links) := fr_nil hP hD hS hA
  refine kZ F hS (rN (As := [.int x1]) (rest := []) ⟨hx, hb, hml, hown, hts⟩ hK hN F (c_X5_isPlace l D cI cJ ad _  x1 (o_res := (f_X5_isPlace x1)) rfl) ⟨va_cnB 1 hts ggX0_put_X5_isPlace rfl rfl rfl hN.2.2.1 (hat hts 3 rfl) (by decide +kernel) ⟨Nat.le_of_ble_eq_true rfl, Nat.le_of_ble_eq_true rfl⟩, hat hts 2 rfl, trivial⟩ rfl hl.1 rfl (Nat.le_of_ble_eq_true rfl) dX0_put_1 ⟨Nat.zero_le _, Nat.zero_le _⟩) (fun H locs hb1 hP hD hS => ?_)
  refine lv_if_eq (tgt := 14) hx hb dX0_put_4 (by decide) (fun c2 => ?_) (fun c2 => ?_)
  · have hf := oo_t hf c2
    cases hf
    exact hret _ _ _ _ dX0_put_14 hP hD hS
  · have hf := oo_f hf c2
    refine lv_aload_n hx hb dX0_put_7 rfl (lv_at hl 0 rfl) ?_
    refine va_get (ci := 0) (v := .ref (ad 13)) (C := RX0) (T := TX0) (N := 1) hx hb hts hin_X0 hown hK hP 0 rfl rfl 0 (by decide) fl_9 (fun _ h9 => h9) rfl dX0_put_8 ?_
    refine lv_iload_n hx hb dX0_put_11 rfl (lv_at hl 1 rfl) ?_
    refine lv_iload_n hx hb dX0_put_12 rfl (lv_at hl 2 rfl) ?_
    obtain ⟨g3, hf⟩ := oo_g hf
    refine va_iast hx hb hK hP hD hS 1 0 rfl rfl g3 dX0_put_13 (fun H locs hP hD hS => ?_)
    have hP : va_P D vwCl (wdB cI cJ ad (upd bn_links (x1).toNatClampNeg x2)) H := hP
    have hD : va_D A (wdB cI cJ ad (upd bn_links (x1).toNatClampNeg x2)) := hD
    cases hf
    exact hret _ _ _ _ dX0_put_14 hP hD hS
def f_X0_clear_L2  : Nat → (Nat → Int32) → Int32 → Option ((Nat → Int32))
  | 0, _, _ => none
  | n + 1, bn_links_a2, x1_a2 =>
      if (4 : Int32) ≤ x1_a2 then
        some bn_links_a2
      else
        if x1_a2 < 0 ∨ 4 ≤ (x1_a2).toNatClampNeg then none else
        f_X0_clear_L2  n (upd bn_links_a2 (x1_a2).toNatClampNeg (0 : Int32)) (x1_a2 + (1 : Int32))
theorem f_X0_clear_L2_s  (n : Nat) (bn_links_a2 : Nat → Int32) (x1_a2 : Int32) : f_X0_clear_L2  (n + 1) bn_links_a2 x1_a2 =
      (if (4 : Int32) ≤ x1_a2 then
        some bn_links_a2
      else
        if x1_a2 < 0 ∨ 4 ≤ (x1_a2).toNatClampNeg then none else
        f_X0_clear_L2  n (upd bn_links_a2 (x1_a2).toNatClampNeg (0 : Int32)) (x1_a2 + (1 : Int32))) := rfl
def f_X0_clear (bn_links : Nat → Int32) : Option ((Nat → Int32)) :=
  Option.bind (f_X0_clear_L2  100 bn_links (0 : Int32)) fun bn_links_o1 =>
  some bn_links_o1
abbrev rm_X0_clear : Room := { frames := 0, cells := 0, slots := 0, locals := 0 }
set_option maxHeartbeats 4000000 in
set_option maxRecDepth 100000 in
theorem c_X0_clear (l : Launch) (D : va_G) (cI cJ : ClassId) (ad : Nat → Nat) (sz : Nat) {bn_links : Nat → Int32}  {o_bn_links : Nat → Int32} (hf : f_X0_clear bn_links = some o_bn_links) : CtV l yX0_clear wsX0_clear rm_X0_clear D cI cJ [.ref (ad 12)] (wdB cI cJ ad bn_links) sz (wdB cI cJ ad o_bn_links) := by
  refine ctV_of (cc := cX0_clear) (maxL := 2) (by decide) rfl (Nat.le_of_ble_eq_true rfl) ?_
  intro p e s m below meth c Q A hx hb hml hown hts hK hN hA hret ls hl hP hD hS
  obtain ⟨args, hargs⟩ : ∃ a : Array Value, a = [.ref (ad 12)].toArray := ⟨_, rfl⟩
  rw [← hargs] at hts hret ⊢
  have hown : s.vm.findClass RX0 = some m.cls := hown
  have hl : lv_has ls 2 [(0, .ref (ad 12))] := hl
  have hin_X0 : ∀ w ∈ wsX00, w ∈ wsX0_clear := fun _ h => List.mem_cons_of_mem _ (List.mem_append_right _ h)
  have fl_9 : (Cond.fieldLink RX0 9 "FoldedWays$Bundles" "links" "[I").before args s = true := hat hts 1 rfl
  unfold f_X0_clear at hf
  refine lv_iconst (v := (0 : Int32)) hx hb dX0_clear_0 (by decide) ?_
  refine lv_istore_n (lv' := [(1, .int (0 : Int32)), (0, .ref (ad 12))]) hx hb dX0_clear_1 rfl hl (by decide) rfl (fun ls hl => ?_)
  have lp2 : ∀ (n : Nat) (bn_links_a2 : Nat → Int32) (x1_a2 : Int32) (bn_links_o1 : Nat → Int32), f_X0_clear_L2  n bn_links_a2 x1_a2 = some bn_links_o1 → (∀ (H : Heap) (locs : List Loc) (ls : Array Slot), va_P D vwCl (wdB cI cJ ad bn_links_o1) H → va_D A (wdB cI cJ ad bn_links_o1) → va_S A s.heap H locs → lv_has ls 2 [] → W p l e rm_X0_clear s m args below meth c H locs 0 0 Q (F0 m 20 ls [])) → ∀ (H : Heap) (locs : List Loc) (ls : Array Slot), va_P D vwCl (wdB cI cJ ad bn_links_a2) H → va_D A (wdB cI cJ ad bn_links_a2) → va_S A s.heap H locs → lv_has ls 2 [(0, .ref (ad 12)), (1, .int x1_a2)] → W p l e rm_X0_clear s m args below meth c H locs 0 0 Q (F0 m 2 ls []) := by
    intro n
    induction n with
    | zero =>
      intro bn_links_a2 x1_a2 bn_links_o1 h0
      exact oo_n h0
    | succ n ih =>
      intro bn_links_a2 x1_a2 bn_links_o1 hf kk H locs ls hP hD hS hl
      rw [f_X0_clear_L2_s] at hf
      refine lv_iload_n hx hb dX0_clear_2 rfl (lv_at hl 1 rfl) ?_
      refine lv_iconst (v := (4 : Int32)) hx hb dX0_clear_3 (by decide) ?_
      refine lv_icmp_ge (tgt := 20) hx hb dX0_clear_4 (by decide) (fun c3 => ?_) (fun c3 => ?_)
      · have hf := oo_t hf c3
        cases hf
        exact kk _ _ _ hP hD hS (lv_sub hl [] rfl)
      · have hf := oo_f hf c3
        refine lv_aload_n hx hb dX0_clear_7 rfl (lv_at hl 0 rfl) ?_
        refine va_get (ci := 0) (v := .ref (ad 13)) (C := RX0) (T := TX0) (N := 1) hx hb hts hin_X0 hown hK hP 0 rfl rfl 0 (by decide) fl_9 (fun _ h9 => h9) rfl dX0_clear_8 ?_
        refine lv_iload_n hx hb dX0_clear_11 rfl (lv_at hl 1 rfl) ?_
        refine lv_iconst (v := (0 : Int32)) hx hb dX0_clear_12 (by decide) ?_
        obtain ⟨g4, hf⟩ := oo_g hf
        refine va_iast hx hb hK hP hD hS 1 0 rfl rfl g4 dX0_clear_13 (fun H locs hP hD hS => ?_)
        have hP : va_P D vwCl (wdB cI cJ ad (upd bn_links_a2 (x1_a2).toNatClampNeg (0 : Int32))) H := hP
        have hD : va_D A (wdB cI cJ ad (upd bn_links_a2 (x1_a2).toNatClampNeg (0 : Int32))) := hD
        refine lv_iinc (v := (x1_a2 + (1 : Int32))) (lv' := [(1, .int (x1_a2 + (1 : Int32))), (0, .ref (ad 12))]) hx hb dX0_clear_14 hl (k := 1) rfl rfl (by decide) rfl (fun ls hl => ?_)
        refine lv_goto (tgt := 2) hx hb dX0_clear_17 (by decide) ?_
        exact ih (upd bn_links_a2 (x1_a2).toNatClampNeg (0 : Int32)) (x1_a2 + (1 : Int32)) _ hf kk _ _ _ hP hD hS (lv_sub hl [1, 0] rfl)
  obtain ⟨bn_links_o1, h5, hf⟩ := oo_b hf
  try dsimp only at hf
  refine lp2  100 bn_links (0 : Int32) bn_links_o1 h5 (fun H locs ls hP hD hS hl => ?_) _ _ _ hP hD hS (lv_sub hl [1, 0] rfl)
  cases hf
  exact hret _ _ _ _ dX0_clear_20 hP hD hS
def f_X0_howMany_L4 (bn_links : Nat → Int32) : Nat → Int32 → Int32 → Option (Int32)
  | 0, _, _ => none
  | n + 1, x1_a4, x2_a4 =>
      if (4 : Int32) ≤ x2_a4 then
        some x1_a4
      else
        Option.bind (f_X0_isThere bn_links x2_a4) fun r5 =>
        f_X0_howMany_L4 bn_links n (if r5 = (0 : Int32) then x1_a4 else (x1_a4 + (1 : Int32))) (x2_a4 + (1 : Int32))
theorem f_X0_howMany_L4_s (bn_links : Nat → Int32) (n : Nat) (x1_a4 : Int32) (x2_a4 : Int32) : f_X0_howMany_L4 bn_links (n + 1) x1_a4 x2_a4 =
      (if (4 : Int32) ≤ x2_a4 then
        some x1_a4
      else
        Option.bind (f_X0_isThere bn_links x2_a4) fun r5 =>
        f_X0_howMany_L4 bn_links n (if r5 = (0 : Int32) then x1_a4 else (x1_a4 + (1 : Int32))) (x2_a4 + (1 : Int32))) := rfl
def f_X0_howMany (bn_links : Nat → Int32) : Option (Int32) :=
  Option.bind (f_X0_howMany_L4 bn_links 100 (0 : Int32) (0 : Int32)) fun x1_o1 =>
  some x1_o1
abbrev rm_X0_howMany : Room := { frames := 3, cells := 0, slots := 0, locals := 62 }
set_option maxHeartbeats 4000000 in
set_option maxRecDepth 100000 in
theorem c_X0_howMany (l : Launch) (D : va_G) (cI cJ : ClassId) (ad : Nat → Nat) (sz : Nat) {bn_links : Nat → Int32}  {o_res : Int32} (hf : f_X0_howMany bn_links = some o_res) : CtI l yX0_howMany wsX0_howMany rm_X0_howMany D cI cJ [.ref (ad 12)] (wdB cI cJ ad bn_links) sz o_res (wdB cI cJ ad bn_links) := by
  refine ctI_of (cc := cX0_howMany) (maxL := 3) (by decide) rfl (Nat.le_of_ble_eq_true rfl) ?_
  intro p e s m below meth c Q A hx hb hml hown hts hK hN hA hret ls hl hP hD hS
  obtain ⟨args, hargs⟩ : ∃ a : Array Value, a = [.ref (ad 12)].toArray := ⟨_, rfl⟩
  rw [← hargs] at hts hret ⊢
  have hown : s.vm.findClass RX0 = some m.cls := hown
  have hl : lv_has ls 3 [(0, .ref (ad 12))] := hl
  unfold f_X0_howMany at hf
  refine lv_iconst (v := (0 : Int32)) hx hb dX0_howMany_0 (by decide) ?_
  refine lv_istore_n (lv' := [(1, .int (0 : Int32)), (0, .ref (ad 12))]) hx hb dX0_howMany_1 rfl hl (by decide) rfl (fun ls hl => ?_)
  refine lv_iconst (v := (0 : Int32)) hx hb dX0_howMany_2 (by decide) ?_
  refine lv_istore_n (lv' := [(2, .int (0 : Int32)), (1, .int (0 : Int32)), (0, .ref (ad 12))]) hx hb dX0_howMany_3 rfl hl (by decide) rfl (fun ls hl => ?_)
  have lp2 : ∀ (n : Nat) (x1_a4 : Int32) (x2_a4 : Int32) (x1_o1 : Int32), f_X0_howMany_L4 bn_links n x1_a4 x2_a4 = some x1_o1 → (∀ (H : Heap) (locs : List Loc) (ls : Array Slot), va_P D vwCl (wdB cI cJ ad bn_links) H → va_D A (wdB cI cJ ad bn_links) → va_S A s.heap H locs → lv_has ls 3 [(1, .int x1_o1)] → W p l e rm_X0_howMany s m args below meth c H locs 0 0 Q (F0 m 26 ls [])) → ∀ (H : Heap) (locs : List Loc) (ls : Array Slot), va_P D vwCl (wdB cI cJ ad bn_links) H → va_D A (wdB cI cJ ad bn_links) → va_S A s.heap H locs → lv_has ls 3 [(0, .ref (ad 12)), (1, .int x1_a4), (2, .int x2_a4)] → W p l e rm_X0_howMany s m args below meth c H locs 0 0 Q (F0 m 4 ls []) := by
    intro n
    induction n with
    | zero =>
      intro x1_a4 x2_a4 x1_o1 h0
      exact oo_n h0
    | succ n ih =>
      intro x1_a4 x2_a4 x1_o1 hf kk H locs ls hP hD hS hl
      rw [f_X0_howMany_L4_s] at hf
      refine lv_iload_n hx hb dX0_howMany_4 rfl (lv_at hl 2 rfl) ?_
      refine lv_iconst (v := (4 : Int32)) hx hb dX0_howMany_5 (by decide) ?_
      refine lv_icmp_ge (tgt := 26) hx hb dX0_howMany_6 (by decide) (fun c3 => ?_) (fun c3 => ?_)
      · have hf := oo_t hf c3
        cases hf
        exact kk _ _ _ hP hD hS (lv_sub hl [1] rfl)
      · have hf := oo_f hf c3
        refine lv_aload_n hx hb dX0_howMany_9 rfl (lv_at hl 0 rfl) ?_
        refine lv_iload_n hx hb dX0_howMany_10 rfl (lv_at hl 2 rfl) ?_
        obtain ⟨r5, h4, hf⟩ := oo_b hf
        try dsimp only at hf
        have F : Fr D A _ (wdB cI cJ ad bn_links) (wdB cI cJ ad bn_links) (wdB cI cJ ad bn_links) := fr_self hP hD hS hA
        refine kZ F hS (rV (q := (RX0, TX0, 1)) (As := [.int x2_a4]) (rest := []) ⟨hx, hb, hml, hown, hts⟩ hK hN F (c_X0_isThere l D cI cJ ad _ (bn_links := bn_links) x2_a4 (o_res := r5) h4) (cwV 1 hts gX0_howMany_X0_isThere rfl rfl rfl (by decide +kernel) ⟨Nat.le_of_ble_eq_true rfl, Nat.le_of_ble_eq_true rfl⟩) (ci := 0) rfl rfl rfl hl.1 rfl (Nat.le_of_ble_eq_true rfl) dX0_howMany_11 ⟨Nat.zero_le _, Nat.zero_le _⟩) (fun H locs hb6 hP hD hS => ?_)
        have kj8 : ∀ (x1_7 : Int32), x1_7 = (if r5 = (0 : Int32) then x1_a4 else (x1_a4 + (1 : Int32))) → ∀ (H : Heap) (locs : List Loc) (ls : Array Slot), va_P D vwCl (wdB cI cJ ad bn_links) H → va_D A (wdB cI cJ ad bn_links) → va_S A s.heap H locs → lv_has ls 3 [(0, .ref (ad 12)), (1, .int x1_7), (2, .int x2_a4)] → W p l e rm_X0_howMany s m args below meth c H locs 0 0 Q (F0 m 20 ls []) := by
          intro x1_7 ex1_7
          subst ex1_7
          intro H locs ls hP hD hS hl
          refine lv_iinc (v := (x2_a4 + (1 : Int32))) (lv' := [(2, .int (x2_a4 + (1 : Int32))), (0, .ref (ad 12)), (1, .int (if r5 = (0 : Int32) then x1_a4 else (x1_a4 + (1 : Int32))))]) hx hb dX0_howMany_20 hl (k := 2) rfl rfl (by decide) rfl (fun ls hl => ?_)
          refine lv_goto (tgt := 4) hx hb dX0_howMany_23 (by decide) ?_
          exact ih (if r5 = (0 : Int32) then x1_a4 else (x1_a4 + (1 : Int32))) (x2_a4 + (1 : Int32)) _ hf kk _ _ _ hP hD hS (lv_sub hl [1, 2, 0] rfl)
        refine lv_if_eq (tgt := 20) hx hb dX0_howMany_14 (by decide) (fun c9 => ?_) (fun c9 => ?_)
        · exact kj8 x1_a4 (if_pos c9).symm _ _ _ hP hD hS (lv_sub hl [0, 1, 2] rfl)
        · refine lv_iinc (v := (x1_a4 + (1 : Int32))) (lv' := [(1, .int (x1_a4 + (1 : Int32))), (0, .ref (ad 12)), (2, .int x2_a4)]) hx hb dX0_howMany_17 hl (k := 1) rfl rfl (by decide) rfl (fun ls hl => ?_)
          exact kj8 (x1_a4 + (1 : Int32)) (if_neg c9).symm _ _ _ hP hD hS (lv_sub hl [1, 0, 2] rfl)
  obtain ⟨x1_o1, h10, hf⟩ := oo_b hf
  try dsimp only at hf
  refine lp2  100 (0 : Int32) (0 : Int32) x1_o1 h10 (fun H locs ls hP hD hS hl => ?_) _ _ _ hP hD hS (lv_sub hl [2, 1, 0] rfl)
  refine lv_iload_n hx hb dX0_howMany_26 rfl (lv_at hl 0 rfl) ?_
  cases hf
  exact hret _ _ _ _ dX0_howMany_27 hP hD hS
def f_X0_placesWith_L4 (bn_links : Nat → Int32) (x1 : Int32) : Nat → Int32 → Int32 → Option (Int32)
  | 0, _, _ => none
  | n + 1, x2_a4, x3_a4 =>
      if (4 : Int32) ≤ x3_a4 then
        some x2_a4
      else
        if x3_a4 < 0 ∨ 4 ≤ (x3_a4).toNatClampNeg then none else
        f_X0_placesWith_L4 bn_links x1 n (x2_a4 ||| ((((bn_links (x3_a4).toNatClampNeg) >>> (x1 &&& 31)) &&& (1 : Int32)) <<< (x3_a4 &&& 31))) (x3_a4 + (1 : Int32))
theorem f_X0_placesWith_L4_s (bn_links : Nat → Int32) (x1 : Int32) (n : Nat) (x2_a4 : Int32) (x3_a4 : Int32) : f_X0_placesWith_L4 bn_links x1 (n + 1) x2_a4 x3_a4 =
      (if (4 : Int32) ≤ x3_a4 then
        some x2_a4
      else
        if x3_a4 < 0 ∨ 4 ≤ (x3_a4).toNatClampNeg then none else
        f_X0_placesWith_L4 bn_links x1 n (x2_a4 ||| ((((bn_links (x3_a4).toNatClampNeg) >>> (x1 &&& 31)) &&& (1 : Int32)) <<< (x3_a4 &&& 31))) (x3_a4 + (1 : Int32))) := rfl
def f_X0_placesWith (bn_links : Nat → Int32) (x1 : Int32) : Option (Int32) :=
  Option.bind (f_X0_placesWith_L4 bn_links x1 100 (0 : Int32) (0 : Int32)) fun x2_o1 =>
  some x2_o1
abbrev rm_X0_placesWith : Room := { frames := 0, cells := 0, slots := 0, locals := 0 }
set_option maxHeartbeats 4000000 in
set_option maxRecDepth 100000 in
theorem c_X0_placesWith (l : Launch) (D : va_G) (cI cJ : ClassId) (ad : Nat → Nat) (sz : Nat) {bn_links : Nat → Int32} (x1 : Int32) {o_res : Int32} (hf : f_X0_placesWith bn_links x1 = some o_res) : CtI l yX0_placesWith wsX0_placesWith rm_X0_placesWith D cI cJ [.ref (ad 12), .int x1] (wdB cI cJ ad bn_links) sz o_res (wdB cI cJ ad bn_links) := by
  refine ctI_of (cc := cX0_placesWith) (maxL := 4) (by decide) rfl (Nat.le_of_ble_eq_true rfl) ?_
  intro p e s m below meth c Q A hx hb hml hown hts hK hN hA hret ls hl hP hD hS
  obtain ⟨args, hargs⟩ : ∃ a : Array Value, a = [.ref (ad 12), .int x1].toArray := ⟨_, rfl⟩
  rw [← hargs] at hts hret ⊢
  have hown : s.vm.findClass RX0 = some m.cls := hown
  have hl : lv_has ls 4 [(0, .ref (ad 12)), (1, .int x1)] := hl
  have hin_X0 : ∀ w ∈ wsX00, w ∈ wsX0_placesWith := fun _ h => List.mem_cons_of_mem _ (List.mem_append_right _ h)
  have fl_9 : (Cond.fieldLink RX0 9 "FoldedWays$Bundles" "links" "[I").before args s = true := hat hts 1 rfl
  unfold f_X0_placesWith at hf
  refine lv_iconst (v := (0 : Int32)) hx hb dX0_placesWith_0 (by decide) ?_
  refine lv_istore_n (lv' := [(2, .int (0 : Int32)), (0, .ref (ad 12)), (1, .int x1)]) hx hb dX0_placesWith_1 rfl hl (by decide) rfl (fun ls hl => ?_)
  refine lv_iconst (v := (0 : Int32)) hx hb dX0_placesWith_2 (by decide) ?_
  refine lv_istore_n (lv' := [(3, .int (0 : Int32)), (2, .int (0 : Int32)), (0, .ref (ad 12)), (1, .int x1)]) hx hb dX0_placesWith_3 rfl hl (by decide) rfl (fun ls hl => ?_)
  have lp2 : ∀ (n : Nat) (x2_a4 : Int32) (x3_a4 : Int32) (x2_o1 : Int32), f_X0_placesWith_L4 bn_links x1 n x2_a4 x3_a4 = some x2_o1 → (∀ (H : Heap) (locs : List Loc) (ls : Array Slot), va_P D vwCl (wdB cI cJ ad bn_links) H → va_D A (wdB cI cJ ad bn_links) → va_S A s.heap H locs → lv_has ls 4 [(2, .int x2_o1)] → W p l e rm_X0_placesWith s m args below meth c H locs 0 0 Q (F0 m 30 ls [])) → ∀ (H : Heap) (locs : List Loc) (ls : Array Slot), va_P D vwCl (wdB cI cJ ad bn_links) H → va_D A (wdB cI cJ ad bn_links) → va_S A s.heap H locs → lv_has ls 4 [(0, .ref (ad 12)), (1, .int x1), (2, .int x2_a4), (3, .int x3_a4)] → W p l e rm_X0_placesWith s m args below meth c H locs 0 0 Q (F0 m 4 ls []) := by
    intro n
    induction n with
    | zero =>
      intro x2_a4 x3_a4 x2_o1 h0
      exact oo_n h0
    | succ n ih =>
      intro x2_a4 x3_a4 x2_o1 hf kk H locs ls hP hD hS hl
      rw [f_X0_placesWith_L4_s] at hf
      refine lv_iload_n hx hb dX0_placesWith_4 rfl (lv_at hl 3 rfl) ?_
      refine lv_iconst (v := (4 : Int32)) hx hb dX0_placesWith_5 (by decide) ?_
      refine lv_icmp_ge (tgt := 30) hx hb dX0_placesWith_6 (by decide) (fun c3 => ?_) (fun c3 => ?_)
      · have hf := oo_t hf c3
        cases hf
        exact kk _ _ _ hP hD hS (lv_sub hl [2] rfl)
      · have hf := oo_f hf c3
        refine lv_iload_n hx hb dX0_placesWith_9 rfl (lv_at hl 2 rfl) ?_
        refine lv_aload_n hx hb dX0_placesWith_10 rfl (lv_at hl 0 rfl) ?_
        refine va_get (ci := 0) (v := .ref (ad 13)) (C := RX0) (T := TX0) (N := 1) hx hb hts hin_X0 hown hK hP 0 rfl rfl 0 (by decide) fl_9 (fun _ h9 => h9) rfl dX0_placesWith_11 ?_
        refine lv_iload_n hx hb dX0_placesWith_14 rfl (lv_at hl 3 rfl) ?_
        obtain ⟨g4, hf⟩ := oo_g hf
        refine va_iald hx hb hK hP 1 0 rfl rfl g4 dX0_placesWith_15 ?_
        refine lv_iload_n hx hb dX0_placesWith_16 rfl (lv_at hl 1 rfl) ?_
        refine lv_ishr hx hb dX0_placesWith_17 ?_
        refine lv_iconst (v := (1 : Int32)) hx hb dX0_placesWith_18 (by decide) ?_
        refine lv_iand hx hb dX0_placesWith_19 ?_
        refine lv_iload_n hx hb dX0_placesWith_20 rfl (lv_at hl 3 rfl) ?_
        refine lv_ishl hx hb dX0_placesWith_21 ?_
        refine lv_ior hx hb dX0_placesWith_22 ?_
        refine lv_istore_n (lv' := [(2, .int (x2_a4 ||| ((((bn_links (x3_a4).toNatClampNeg) >>> (x1 &&& 31)) &&& (1 : Int32)) <<< (x3_a4 &&& 31)))), (0, .ref (ad 12)), (1, .int x1), (3, .int x3_a4)]) hx hb dX0_placesWith_23 rfl hl (by decide) rfl (fun ls hl => ?_)
        refine lv_iinc (v := (x3_a4 + (1 : Int32))) (lv' := [(3, .int (x3_a4 + (1 : Int32))), (2, .int (x2_a4 ||| ((((bn_links (x3_a4).toNatClampNeg) >>> (x1 &&& 31)) &&& (1 : Int32)) <<< (x3_a4 &&& 31)))), (0, .ref (ad 12)), (1, .int x1)]) hx hb dX0_placesWith_24 hl (k := 3) rfl rfl (by decide) rfl (fun ls hl => ?_)
        refine lv_goto (tgt := 4) hx hb dX0_placesWith_27 (by decide) ?_
        exact ih (x2_a4 ||| ((((bn_links (x3_a4).toNatClampNeg) >>> (x1 &&& 31)) &&& (1 : Int32)) <<< (x3_a4 &&& 31))) (x3_a4 + (1 : Int32)) _ hf kk _ _ _ hP hD hS (lv_sub hl [2, 3, 1, 0] rfl)
  obtain ⟨x2_o1, h5, hf⟩ := oo_b hf
  try dsimp only at hf
  refine lp2  100 (0 : Int32) (0 : Int32) x2_o1 h5 (fun H locs ls hP hD hS hl => ?_) _ _ _ hP hD hS (lv_sub hl [2, 3, 1, 0] rfl)
  refine lv_iload_n hx hb dX0_placesWith_30 rfl (lv_at hl 0 rfl) ?_
  cases hf
  exact hret _ _ _ _ dX0_placesWith_31 hP hD hS
def f_J6_bitCount_0f7a4_v0 (x0 : Int32) : Int32 := (((((x0 - (((x0).toUInt32 >>> (((1 : Int32)).toUInt32 &&& Int32.toUInt32 31)).toInt32 &&& (1431655765 : Int32))) &&& (858993459 : Int32)) + ((((x0 - (((x0).toUInt32 >>> (((1 : Int32)).toUInt32 &&& Int32.toUInt32 31)).toInt32 &&& (1431655765 : Int32)))).toUInt32 >>> (((2 : Int32)).toUInt32 &&& Int32.toUInt32 31)).toInt32 &&& (858993459 : Int32))) + (((((x0 - (((x0).toUInt32 >>> (((1 : Int32)).toUInt32 &&& Int32.toUInt32 31)).toInt32 &&& (1431655765 : Int32))) &&& (858993459 : Int32)) + ((((x0 - (((x0).toUInt32 >>> (((1 : Int32)).toUInt32 &&& Int32.toUInt32 31)).toInt32 &&& (1431655765 : Int32)))).toUInt32 >>> (((2 : Int32)).toUInt32 &&& Int32.toUInt32 31)).toInt32 &&& (858993459 : Int32)))).toUInt32 >>> (((4 : Int32)).toUInt32 &&& Int32.toUInt32 31)).toInt32) &&& (252645135 : Int32))
def f_J6_bitCount_0f7a4 (x0 : Int32) : Int32 :=
  ((((f_J6_bitCount_0f7a4_v0 x0) + (((f_J6_bitCount_0f7a4_v0 x0)).toUInt32 >>> (((8 : Int32)).toUInt32 &&& Int32.toUInt32 31)).toInt32) + ((((f_J6_bitCount_0f7a4_v0 x0) + (((f_J6_bitCount_0f7a4_v0 x0)).toUInt32 >>> (((8 : Int32)).toUInt32 &&& Int32.toUInt32 31)).toInt32)).toUInt32 >>> (((16 : Int32)).toUInt32 &&& Int32.toUInt32 31)).toInt32) &&& (63 : Int32))
abbrev rm_J6_bitCount_0f7a4 : Room := { frames := 0, cells := 0, slots := 0, locals := 0 }
set_option maxHeartbeats 4000000 in
set_option maxRecDepth 100000 in
theorem c_J6_bitCount_0f7a4 (l : Launch) (D : va_G) (cI cJ : ClassId) (ad : Nat → Nat) (sz : Nat)  (x0 : Int32) {o_res : Int32} (hf : f_J6_bitCount_0f7a4 x0 = o_res) : CtI l yJ6_bitCount_0f7a4 wsJ6_bitCount_0f7a4 rm_J6_bitCount_0f7a4 D cI cJ [.int x0] [] sz o_res [] := by
  refine ctI_of (cc := cJ6_bitCount_0f7a4) (maxL := 1) (by decide) rfl (Nat.le_of_ble_eq_true rfl) ?_
  intro p e s m below meth c Q A hx hb hml hown hts hK hN hA hret ls hl hP hD hS
  obtain ⟨args, hargs⟩ : ∃ a : Array Value, a = [.int x0].toArray := ⟨_, rfl⟩
  rw [← hargs] at hts hret ⊢
  have hown : s.vm.findClass RJ6 = some m.cls := hown
  have hl : lv_has ls 1 [(0, .int x0)] := hl
  unfold f_J6_bitCount_0f7a4 at hf
  refine lv_iload_n hx hb dJ6_bitCount_0f7a4_0 rfl (lv_at hl 0 rfl) ?_
  refine lv_iload_n hx hb dJ6_bitCount_0f7a4_1 rfl (lv_at hl 0 rfl) ?_
  refine lv_iconst (v := (1 : Int32)) hx hb dJ6_bitCount_0f7a4_2 (by decide) ?_
  refine lv_iushr (v := ((x0).toUInt32 >>> (((1 : Int32)).toUInt32 &&& Int32.toUInt32 31)).toInt32) hx hb dJ6_bitCount_0f7a4_3 rfl ?_
  refine lv_ldcw (v := (1431655765 : Int32)) hx hb hown (hat hts 1 rfl) dJ6_bitCount_0f7a4_4 ?_
  refine lv_iand hx hb dJ6_bitCount_0f7a4_7 ?_
  refine lv_isub hx hb dJ6_bitCount_0f7a4_8 ?_
  refine lv_istore_n (lv' := [(0, .int (x0 - (((x0).toUInt32 >>> (((1 : Int32)).toUInt32 &&& Int32.toUInt32 31)).toInt32 &&& (1431655765 : Int32))))]) hx hb dJ6_bitCount_0f7a4_9 rfl hl (by decide) rfl (fun ls hl => ?_)
  refine lv_iload_n hx hb dJ6_bitCount_0f7a4_10 rfl (lv_at hl 0 rfl) ?_
  refine lv_ldcw (v := (858993459 : Int32)) hx hb hown (hat hts 2 rfl) dJ6_bitCount_0f7a4_11 ?_
  refine lv_iand hx hb dJ6_bitCount_0f7a4_14 ?_
  refine lv_iload_n hx hb dJ6_bitCount_0f7a4_15 rfl (lv_at hl 0 rfl) ?_
  refine lv_iconst (v := (2 : Int32)) hx hb dJ6_bitCount_0f7a4_16 (by decide) ?_
  refine lv_iushr (v := (((x0 - (((x0).toUInt32 >>> (((1 : Int32)).toUInt32 &&& Int32.toUInt32 31)).toInt32 &&& (1431655765 : Int32)))).toUInt32 >>> (((2 : Int32)).toUInt32 &&& Int32.toUInt32 31)).toInt32) hx hb dJ6_bitCount_0f7a4_17 rfl ?_
  refine lv_ldcw (v := (858993459 : Int32)) hx hb hown (hat hts 2 rfl) dJ6_bitCount_0f7a4_18 ?_
  refine lv_iand hx hb dJ6_bitCount_0f7a4_21 ?_
  refine lv_iadd hx hb dJ6_bitCount_0f7a4_22 ?_
  refine lv_istore_n (lv' := [(0, .int (((x0 - (((x0).toUInt32 >>> (((1 : Int32)).toUInt32 &&& Int32.toUInt32 31)).toInt32 &&& (1431655765 : Int32))) &&& (858993459 : Int32)) + ((((x0 - (((x0).toUInt32 >>> (((1 : Int32)).toUInt32 &&& Int32.toUInt32 31)).toInt32 &&& (1431655765 : Int32)))).toUInt32 >>> (((2 : Int32)).toUInt32 &&& Int32.toUInt32 31)).toInt32 &&& (858993459 : Int32))))]) hx hb dJ6_bitCount_0f7a4_23 rfl hl (by decide) rfl (fun ls hl => ?_)
  refine lv_iload_n hx hb dJ6_bitCount_0f7a4_24 rfl (lv_at hl 0 rfl) ?_
  refine lv_iload_n hx hb dJ6_bitCount_0f7a4_25 rfl (lv_at hl 0 rfl) ?_
  refine lv_iconst (v := (4 : Int32)) hx hb dJ6_bitCount_0f7a4_26 (by decide) ?_
  refine lv_iushr (v := (((((x0 - (((x0).toUInt32 >>> (((1 : Int32)).toUInt32 &&& Int32.toUInt32 31)).toInt32 &&& (1431655765 : Int32))) &&& (858993459 : Int32)) + ((((x0 - (((x0).toUInt32 >>> (((1 : Int32)).toUInt32 &&& Int32.toUInt32 31)).toInt32 &&& (1431655765 : Int32)))).toUInt32 >>> (((2 : Int32)).toUInt32 &&& Int32.toUInt32 31)).toInt32 &&& (858993459 : Int32)))).toUInt32 >>> (((4 : Int32)).toUInt32 &&& Int32.toUInt32 31)).toInt32) hx hb dJ6_bitCount_0f7a4_27 rfl ?_
  refine lv_iadd hx hb dJ6_bitCount_0f7a4_28 ?_
  refine lv_ldcw (v := (252645135 : Int32)) hx hb hown (hat hts 3 rfl) dJ6_bitCount_0f7a4_29 ?_
  refine lv_iand hx hb dJ6_bitCount_0f7a4_32 ?_
  refine lv_istore_n (lv' := [(0, .int (f_J6_bitCount_0f7a4_v0 x0))]) hx hb dJ6_bitCount_0f7a4_33 rfl hl (by decide) rfl (fun ls hl => ?_)
  refine lv_iload_n hx hb dJ6_bitCount_0f7a4_34 rfl (lv_at hl 0 rfl) ?_
  refine lv_iload_n hx hb dJ6_bitCount_0f7a4_35 rfl (lv_at hl 0 rfl) ?_
  refine lv_bipush (v := (8 : Int32)) hx hb dJ6_bitCount_0f7a4_36 (by decide) ?_
  refine lv_iushr (v := (((f_J6_bitCount_0f7a4_v0 x0)).toUInt32 >>> (((8 : Int32)).toUInt32 &&& Int32.toUInt32 31)).toInt32) hx hb dJ6_bitCount_0f7a4_38 rfl ?_
  refine lv_iadd hx hb dJ6_bitCount_0f7a4_39 ?_
  refine lv_istore_n (lv' := [(0, .int ((f_J6_bitCount_0f7a4_v0 x0) + (((f_J6_bitCount_0f7a4_v0 x0)).toUInt32 >>> (((8 : Int32)).toUInt32 &&& Int32.toUInt32 31)).toInt32))]) hx hb dJ6_bitCount_0f7a4_40 rfl hl (by decide) rfl (fun ls hl => ?_)
  refine lv_iload_n hx hb dJ6_bitCount_0f7a4_41 rfl (lv_at hl 0 rfl) ?_
  refine lv_iload_n hx hb dJ6_bitCount_0f7a4_42 rfl (lv_at hl 0 rfl) ?_
  refine lv_bipush (v := (16 : Int32)) hx hb dJ6_bitCount_0f7a4_43 (by decide) ?_
  refine lv_iushr (v := ((((f_J6_bitCount_0f7a4_v0 x0) + (((f_J6_bitCount_0f7a4_v0 x0)).toUInt32 >>> (((8 : Int32)).toUInt32 &&& Int32.toUInt32 31)).toInt32)).toUInt32 >>> (((16 : Int32)).toUInt32 &&& Int32.toUInt32 31)).toInt32) hx hb dJ6_bitCount_0f7a4_45 rfl ?_
  refine lv_iadd hx hb dJ6_bitCount_0f7a4_46 ?_
  refine lv_istore_n (lv' := [(0, .int (((f_J6_bitCount_0f7a4_v0 x0) + (((f_J6_bitCount_0f7a4_v0 x0)).toUInt32 >>> (((8 : Int32)).toUInt32 &&& Int32.toUInt32 31)).toInt32) + ((((f_J6_bitCount_0f7a4_v0 x0) + (((f_J6_bitCount_0f7a4_v0 x0)).toUInt32 >>> (((8 : Int32)).toUInt32 &&& Int32.toUInt32 31)).toInt32)).toUInt32 >>> (((16 : Int32)).toUInt32 &&& Int32.toUInt32 31)).toInt32))]) hx hb dJ6_bitCount_0f7a4_47 rfl hl (by decide) rfl (fun ls hl => ?_)
  refine lv_iload_n hx hb dJ6_bitCount_0f7a4_48 rfl (lv_at hl 0 rfl) ?_
  refine lv_bipush (v := (63 : Int32)) hx hb dJ6_bitCount_0f7a4_49 (by decide) ?_
  refine lv_iand hx hb dJ6_bitCount_0f7a4_51 ?_
  cases hf
  exact hret _ _ _ _ dJ6_bitCount_0f7a4_52 hP hD hS
def f_X2_linkCount (gr_links : Int32) : Int32 :=
  gr_links
abbrev rm_X2_linkCount : Room := { frames := 0, cells := 0, slots := 0, locals := 0 }
set_option maxHeartbeats 4000000 in
set_option maxRecDepth 100000 in
theorem c_X2_linkCount (l : Launch) (D : va_G) (cI cJ : ClassId) (ad : Nat → Nat) (sz : Nat) {gr_nodes gr_links : Int32} {gr_start gr_end gr_linkBetween gr_wayLength gr_wayNext gr_wayLinks : Nat → Int32}  {o_res : Int32} (hf : f_X2_linkCount gr_links = o_res) : CtI l yX2_linkCount wsX2_linkCount rm_X2_linkCount D cI cJ [.ref (ad 3)] (wdG cI cJ ad gr_nodes gr_links gr_start gr_end gr_linkBetween gr_wayLength gr_wayNext gr_wayLinks) sz o_res (wdG cI cJ ad gr_nodes gr_links gr_start gr_end gr_linkBetween gr_wayLength gr_wayNext gr_wayLinks) := by
  refine ctI_of (cc := cX2_linkCount) (maxL := 1) (by decide) rfl (Nat.le_of_ble_eq_true rfl) ?_
  intro p e s m below meth c Q A hx hb hml hown hts hK hN hA hret ls hl hP hD hS
  obtain ⟨args, hargs⟩ : ∃ a : Array Value, a = [.ref (ad 3)].toArray := ⟨_, rfl⟩
  rw [← hargs] at hts hret ⊢
  have hown : s.vm.findClass RX2 = some m.cls := hown
  have hl : lv_has ls 1 [(0, .ref (ad 3))] := hl
  have hin_X2 : ∀ w ∈ wsX20, w ∈ wsX2_linkCount := fun _ h => List.mem_cons_of_mem _ (List.mem_append_right _ h)
  have fl_34 : (Cond.fieldLink RX2 34 "FoldedWays$Graph" "links" "I").before args s = true := hat hts 1 rfl
  unfold f_X2_linkCount at hf
  refine lv_aload_n hx hb dX2_linkCount_0 rfl (lv_at hl 0 rfl) ?_
  refine va_get (ci := 2) (v := .int gr_links) (C := RX2) (T := TX2) (N := 8) hx hb hts hin_X2 hown hK hP 0 rfl rfl 1 (by decide) fl_34 (fun _ h9 => h9) rfl dX2_linkCount_1 ?_
  cases hf
  exact hret _ _ _ _ dX2_linkCount_4 hP hD hS
def f_X2_startOf (gr_start : Nat → Int32) (x1 : Int32) : Option (Int32) :=
  if x1 < (0 : Int32) then
    some (-1 : Int32)
  else
    if (16 : Int32) ≤ x1 then
      some (-1 : Int32)
    else
      if x1 < 0 ∨ 16 ≤ (x1).toNatClampNeg then none else
      some (gr_start (x1).toNatClampNeg)
abbrev rm_X2_startOf : Room := { frames := 0, cells := 0, slots := 0, locals := 0 }
set_option maxHeartbeats 4000000 in
set_option maxRecDepth 100000 in
theorem c_X2_startOf (l : Launch) (D : va_G) (cI cJ : ClassId) (ad : Nat → Nat) (sz : Nat) {gr_nodes gr_links : Int32} {gr_start gr_end gr_linkBetween gr_wayLength gr_wayNext gr_wayLinks : Nat → Int32} (x1 : Int32) {o_res : Int32} (hf : f_X2_startOf gr_start x1 = some o_res) : CtI l yX2_startOf wsX2_startOf rm_X2_startOf D cI cJ [.ref (ad 3), .int x1] (wdG cI cJ ad gr_nodes gr_links gr_start gr_end gr_linkBetween gr_wayLength gr_wayNext gr_wayLinks) sz o_res (wdG cI cJ ad gr_nodes gr_links gr_start gr_end gr_linkBetween gr_wayLength gr_wayNext gr_wayLinks) := by
  refine ctI_of (cc := cX2_startOf) (maxL := 2) (by decide) rfl (Nat.le_of_ble_eq_true rfl) ?_
  intro p e s m below meth c Q A hx hb hml hown hts hK hN hA hret ls hl hP hD hS
  obtain ⟨args, hargs⟩ : ∃ a : Array Value, a = [.ref (ad 3), .int x1].toArray := ⟨_, rfl⟩
  rw [← hargs] at hts hret ⊢
  have hown : s.vm.findClass RX2 = some m.cls := hown
  have hl : lv_has ls 2 [(0, .ref (ad 3)), (1, .int x1)] := hl
  have hin_X2 : ∀ w ∈ wsX20, w ∈ wsX2_startOf := fun _ h => List.mem_cons_of_mem _ (List.mem_append_right _ h)
  have fl_9 : (Cond.fieldLink RX2 9 "FoldedWays$Graph" "start" "[I").before args s = true := hat hts 1 rfl
  unfold f_X2_startOf at hf
  refine lv_iload_n hx hb dX2_startOf_0 rfl (lv_at hl 1 rfl) ?_
  refine lv_if_lt (tgt := 19) hx hb dX2_startOf_1 (by decide) (fun c1 => ?_) (fun c1 => ?_)
  · have hf := oo_t hf c1
    refine lv_iconst (v := (-1 : Int32)) hx hb dX2_startOf_19 (by decide) ?_
    cases hf
    exact hret _ _ _ _ dX2_startOf_20 hP hD hS
  · have hf := oo_f hf c1
    refine lv_iload_n hx hb dX2_startOf_4 rfl (lv_at hl 1 rfl) ?_
    refine lv_bipush (v := (16 : Int32)) hx hb dX2_startOf_5 (by decide) ?_
    refine lv_icmp_ge (tgt := 19) hx hb dX2_startOf_7 (by decide) (fun c2 => ?_) (fun c2 => ?_)
    · have hf := oo_t hf c2
      refine lv_iconst (v := (-1 : Int32)) hx hb dX2_startOf_19 (by decide) ?_
      cases hf
      exact hret _ _ _ _ dX2_startOf_20 hP hD hS
    · have hf := oo_f hf c2
      refine lv_aload_n hx hb dX2_startOf_10 rfl (lv_at hl 0 rfl) ?_
      refine va_get (ci := 2) (v := .ref (ad 4)) (C := RX2) (T := TX2) (N := 8) hx hb hts hin_X2 hown hK hP 0 rfl rfl 2 (by decide) fl_9 (fun _ h9 => h9) rfl dX2_startOf_11 ?_
      refine lv_iload_n hx hb dX2_startOf_14 rfl (lv_at hl 1 rfl) ?_
      obtain ⟨g3, hf⟩ := oo_g hf
      refine va_iald hx hb hK hP 1 0 rfl rfl g3 dX2_startOf_15 ?_
      refine lv_goto (tgt := 20) hx hb dX2_startOf_16 (by decide) ?_
      cases hf
      exact hret _ _ _ _ dX2_startOf_20 hP hD hS
def f_X2_endOf (gr_end : Nat → Int32) (x1 : Int32) : Option (Int32) :=
  if x1 < (0 : Int32) then
    some (-1 : Int32)
  else
    if (16 : Int32) ≤ x1 then
      some (-1 : Int32)
    else
      if x1 < 0 ∨ 16 ≤ (x1).toNatClampNeg then none else
      some (gr_end (x1).toNatClampNeg)
abbrev rm_X2_endOf : Room := { frames := 0, cells := 0, slots := 0, locals := 0 }
set_option maxHeartbeats 4000000 in
set_option maxRecDepth 100000 in
theorem c_X2_endOf (l : Launch) (D : va_G) (cI cJ : ClassId) (ad : Nat → Nat) (sz : Nat) {gr_nodes gr_links : Int32} {gr_start gr_end gr_linkBetween gr_wayLength gr_wayNext gr_wayLinks : Nat → Int32} (x1 : Int32) {o_res : Int32} (hf : f_X2_endOf gr_end x1 = some o_res) : CtI l yX2_endOf wsX2_endOf rm_X2_endOf D cI cJ [.ref (ad 3), .int x1] (wdG cI cJ ad gr_nodes gr_links gr_start gr_end gr_linkBetween gr_wayLength gr_wayNext gr_wayLinks) sz o_res (wdG cI cJ ad gr_nodes gr_links gr_start gr_end gr_linkBetween gr_wayLength gr_wayNext gr_wayLinks) := by
  refine ctI_of (cc := cX2_endOf) (maxL := 2) (by decide) rfl (Nat.le_of_ble_eq_true rfl) ?_
  intro p e s m below meth c Q A hx hb hml hown hts hK hN hA hret ls hl hP hD hS
  obtain ⟨args, hargs⟩ : ∃ a : Array Value, a = [.ref (ad 3), .int x1].toArray := ⟨_, rfl⟩
  rw [← hargs] at hts hret ⊢
  have hown : s.vm.findClass RX2 = some m.cls := hown
  have hl : lv_has ls 2 [(0, .ref (ad 3)), (1, .int x1)] := hl
  have hin_X2 : ∀ w ∈ wsX20, w ∈ wsX2_endOf := fun _ h => List.mem_cons_of_mem _ (List.mem_append_right _ h)
  have fl_15 : (Cond.fieldLink RX2 15 "FoldedWays$Graph" "end" "[I").before args s = true := hat hts 1 rfl
  unfold f_X2_endOf at hf
  refine lv_iload_n hx hb dX2_endOf_0 rfl (lv_at hl 1 rfl) ?_
  refine lv_if_lt (tgt := 19) hx hb dX2_endOf_1 (by decide) (fun c1 => ?_) (fun c1 => ?_)
  · have hf := oo_t hf c1
    refine lv_iconst (v := (-1 : Int32)) hx hb dX2_endOf_19 (by decide) ?_
    cases hf
    exact hret _ _ _ _ dX2_endOf_20 hP hD hS
  · have hf := oo_f hf c1
    refine lv_iload_n hx hb dX2_endOf_4 rfl (lv_at hl 1 rfl) ?_
    refine lv_bipush (v := (16 : Int32)) hx hb dX2_endOf_5 (by decide) ?_
    refine lv_icmp_ge (tgt := 19) hx hb dX2_endOf_7 (by decide) (fun c2 => ?_) (fun c2 => ?_)
    · have hf := oo_t hf c2
      refine lv_iconst (v := (-1 : Int32)) hx hb dX2_endOf_19 (by decide) ?_
      cases hf
      exact hret _ _ _ _ dX2_endOf_20 hP hD hS
    · have hf := oo_f hf c2
      refine lv_aload_n hx hb dX2_endOf_10 rfl (lv_at hl 0 rfl) ?_
      refine va_get (ci := 2) (v := .ref (ad 5)) (C := RX2) (T := TX2) (N := 8) hx hb hts hin_X2 hown hK hP 0 rfl rfl 3 (by decide) fl_15 (fun _ h9 => h9) rfl dX2_endOf_11 ?_
      refine lv_iload_n hx hb dX2_endOf_14 rfl (lv_at hl 1 rfl) ?_
      obtain ⟨g3, hf⟩ := oo_g hf
      refine va_iald hx hb hK hP 2 0 rfl rfl g3 dX2_endOf_15 ?_
      refine lv_goto (tgt := 20) hx hb dX2_endOf_16 (by decide) ?_
      cases hf
      exact hret _ _ _ _ dX2_endOf_20 hP hD hS
def f_X1_sendOn_L9 (gr_links : Int32) (gr_start : Nat → Int32) (gr_end : Nat → Int32) (x2 : Int32) (x3 : Int32) (x4 : Int32) : Nat → Int32 → Int32 → Int32 → Int32 → Int32 → Option (Int32 × Int32 × Int32 × Int32)
  | 0, _, _, _, _, _ => none
  | n + 1, fl_passages_a9, fl_astray_a9, fl_loops_a9, fl_reached_a9, x6_a9 =>
      if (f_X2_linkCount gr_links) ≤ x6_a9 then
        some (fl_passages_a9, fl_astray_a9, fl_loops_a9, fl_reached_a9)
      else
        Option.bind (α := Int32) (if ((x4 >>> (x6_a9 &&& 31)) &&& (1 : Int32)) = (0 : Int32) then
            some (0 : Int32)
          else
            Option.bind (f_X2_startOf gr_start x6_a9) fun r26 =>
            if ((x2 >>> (r26 &&& 31)) &&& (1 : Int32)) = (0 : Int32) then
              some (0 : Int32)
            else
              some (1 : Int32)) fun k_8 =>
        Option.bind (α := Int32 × Int32 × Int32 × Int32) (if k_8 = (0 : Int32) then
            some (fl_passages_a9, fl_astray_a9, fl_loops_a9, fl_reached_a9)
          else
            Option.bind (f_X2_endOf gr_end x6_a9) fun r19 =>
            some ((fl_passages_a9 + (1 : Int32)), (fl_astray_a9 + ((1 : Int32) - ((x3 >>> (x6_a9 &&& 31)) &&& (1 : Int32)))), (fl_loops_a9 + (if (fl_reached_a9 &&& ((1 : Int32) <<< (r19 &&& 31))) = (0 : Int32) then (0 : Int32) else (1 : Int32))), (fl_reached_a9 ||| ((1 : Int32) <<< (r19 &&& 31))))) fun (fl_passages_11, fl_astray_12, fl_loops_13, fl_reached_14) =>
        f_X1_sendOn_L9 gr_links gr_start gr_end x2 x3 x4 n fl_passages_11 fl_astray_12 fl_loops_13 fl_reached_14 (x6_a9 + (1 : Int32))
theorem f_X1_sendOn_L9_s (gr_links : Int32) (gr_start : Nat → Int32) (gr_end : Nat → Int32) (x2 : Int32) (x3 : Int32) (x4 : Int32) (n : Nat) (fl_passages_a9 : Int32) (fl_astray_a9 : Int32) (fl_loops_a9 : Int32) (fl_reached_a9 : Int32) (x6_a9 : Int32) : f_X1_sendOn_L9 gr_links gr_start gr_end x2 x3 x4 (n + 1) fl_passages_a9 fl_astray_a9 fl_loops_a9 fl_reached_a9 x6_a9 =
      (if (f_X2_linkCount gr_links) ≤ x6_a9 then
        some (fl_passages_a9, fl_astray_a9, fl_loops_a9, fl_reached_a9)
      else
        Option.bind (α := Int32) (if ((x4 >>> (x6_a9 &&& 31)) &&& (1 : Int32)) = (0 : Int32) then
            some (0 : Int32)
          else
            Option.bind (f_X2_startOf gr_start x6_a9) fun r26 =>
            if ((x2 >>> (r26 &&& 31)) &&& (1 : Int32)) = (0 : Int32) then
              some (0 : Int32)
            else
              some (1 : Int32)) fun k_8 =>
        Option.bind (α := Int32 × Int32 × Int32 × Int32) (if k_8 = (0 : Int32) then
            some (fl_passages_a9, fl_astray_a9, fl_loops_a9, fl_reached_a9)
          else
            Option.bind (f_X2_endOf gr_end x6_a9) fun r19 =>
            some ((fl_passages_a9 + (1 : Int32)), (fl_astray_a9 + ((1 : Int32) - ((x3 >>> (x6_a9 &&& 31)) &&& (1 : Int32)))), (fl_loops_a9 + (if (fl_reached_a9 &&& ((1 : Int32) <<< (r19 &&& 31))) = (0 : Int32) then (0 : Int32) else (1 : Int32))), (fl_reached_a9 ||| ((1 : Int32) <<< (r19 &&& 31))))) fun (fl_passages_11, fl_astray_12, fl_loops_13, fl_reached_14) =>
        f_X1_sendOn_L9 gr_links gr_start gr_end x2 x3 x4 n fl_passages_11 fl_astray_12 fl_loops_13 fl_reached_14 (x6_a9 + (1 : Int32))) := rfl
def f_X1_sendOn (fl_passages : Int32) (fl_astray : Int32) (fl_loops : Int32) (fl_reached : Int32) (gr_links : Int32) (gr_start : Nat → Int32) (gr_end : Nat → Int32) (x2 : Int32) (x3 : Int32) (x4 : Int32) : Option (Int32 × Int32 × Int32 × Int32 × Int32) :=
  Option.bind (f_X1_sendOn_L9 gr_links gr_start gr_end x2 x3 x4 100 fl_passages fl_astray fl_loops fl_reached (0 : Int32)) fun (fl_passages_o1, fl_astray_o2, fl_loops_o3, fl_reached_o4) =>
  some ((fl_reached_o4 &&& (fl_reached ^^^ (-1 : Int32))), fl_passages_o1, fl_astray_o2, fl_loops_o3, fl_reached_o4)
abbrev rm_X1_sendOn : Room := { frames := 1, cells := 0, slots := 0, locals := 21 }
set_option maxHeartbeats 4000000 in
set_option maxRecDepth 100000 in
theorem c_X1_sendOn (l : Launch) (D : va_G) (cI cJ : ClassId) (ad : Nat → Nat) (sz : Nat) {fl_foldBits fl_passages fl_astray fl_loops fl_steps fl_reached fl_matchingAside gr_nodes gr_links : Int32} {gr_start gr_end gr_linkBetween gr_wayLength gr_wayNext gr_wayLinks : Nat → Int32} (x2 : Int32) (x3 : Int32) (x4 : Int32) {o_res : Int32} {o_fl_passages : Int32} {o_fl_astray : Int32} {o_fl_loops : Int32} {o_fl_reached : Int32} (hf : f_X1_sendOn fl_passages fl_astray fl_loops fl_reached gr_links gr_start gr_end x2 x3 x4 = some (o_res, o_fl_passages, o_fl_astray, o_fl_loops, o_fl_reached)) : CtI l yX1_sendOn wsX1_sendOn rm_X1_sendOn D cI cJ [.ref (ad 14), .ref (ad 3), .int x2, .int x3, .int x4] (wdFG cI cJ ad fl_foldBits fl_passages fl_astray fl_loops fl_steps fl_reached fl_matchingAside gr_nodes gr_links gr_start gr_end gr_linkBetween gr_wayLength gr_wayNext gr_wayLinks) sz o_res (wdFG cI cJ ad fl_foldBits o_fl_passages o_fl_astray o_fl_loops fl_steps o_fl_reached fl_matchingAside gr_nodes gr_links gr_start gr_end gr_linkBetween gr_wayLength gr_wayNext gr_wayLinks) := by
  refine ctI_of (cc := cX1_sendOn) (maxL := 9) (by decide) rfl (Nat.le_of_ble_eq_true rfl) ?_
  intro p e s m below meth c Q A hx hb hml hown hts hK hN hA hret ls hl hP hD hS
  obtain ⟨args, hargs⟩ : ∃ a : Array Value, a = [.ref (ad 14), .ref (ad 3), .int x2, .int x3, .int x4].toArray := ⟨_, rfl⟩
  rw [← hargs] at hts hret ⊢
  have hown : s.vm.findClass RX1 = some m.cls := hown
  have hl : lv_has ls 9 [(0, .ref (ad 14)), (1, .ref (ad 3)), (2, .int x2), (3, .int x3), (4, .int x4)] := hl
  have hin_X1 : ∀ w ∈ wsX10, w ∈ wsX1_sendOn := fun _ h => List.mem_cons_of_mem _ (List.mem_append_left _ (List.mem_append_right _ h))
  have fl_9 : (Cond.fieldLink RX1 9 "FoldedWays$Flow" "passages" "I").before args s = true := hat hts 2 rfl
  have fl_15 : (Cond.fieldLink RX1 15 "FoldedWays$Flow" "astray" "I").before args s = true := hat hts 3 rfl
  have fl_18 : (Cond.fieldLink RX1 18 "FoldedWays$Flow" "loops" "I").before args s = true := hat hts 4 rfl
  have fl_24 : (Cond.fieldLink RX1 24 "FoldedWays$Flow" "reached" "I").before args s = true := hat hts 1 rfl
  unfold f_X1_sendOn at hf
  refine lv_aload_n hx hb dX1_sendOn_0 rfl (lv_at hl 0 rfl) ?_
  refine va_get (ci := 1) (v := .int fl_reached) (C := RX1) (T := TX1) (N := 7) hx hb hts hin_X1 hown hK hP 0 rfl rfl 5 (by decide) fl_24 (fun _ h9 => h9) rfl dX1_sendOn_1 ?_
  refine lv_istore (lv' := [(5, .int fl_reached), (0, .ref (ad 14)), (1, .ref (ad 3)), (2, .int x2), (3, .int x3), (4, .int x4)]) hx hb dX1_sendOn_4 hl (by decide) rfl (fun ls hl => ?_)
  refine lv_iconst (v := (0 : Int32)) hx hb dX1_sendOn_6 (by decide) ?_
  refine lv_istore (lv' := [(6, .int (0 : Int32)), (5, .int fl_reached), (0, .ref (ad 14)), (1, .ref (ad 3)), (2, .int x2), (3, .int x3), (4, .int x4)]) hx hb dX1_sendOn_7 hl (by decide) rfl (fun ls hl => ?_)
  have lp5 : ∀ (n : Nat) (fl_passages_a9 : Int32) (fl_astray_a9 : Int32) (fl_loops_a9 : Int32) (fl_reached_a9 : Int32) (x6_a9 : Int32) (fl_passages_o1 : Int32) (fl_astray_o2 : Int32) (fl_loops_o3 : Int32) (fl_reached_o4 : Int32), f_X1_sendOn_L9 gr_links gr_start gr_end x2 x3 x4 n fl_passages_a9 fl_astray_a9 fl_loops_a9 fl_reached_a9 x6_a9 = some (fl_passages_o1, fl_astray_o2, fl_loops_o3, fl_reached_o4) → (∀ (H : Heap) (locs : List Loc) (ls : Array Slot), va_P D vwCl (wdFG cI cJ ad fl_foldBits fl_passages_o1 fl_astray_o2 fl_loops_o3 fl_steps fl_reached_o4 fl_matchingAside gr_nodes gr_links gr_start gr_end gr_linkBetween gr_wayLength gr_wayNext gr_wayLinks) H → va_D A (wdFG cI cJ ad fl_foldBits fl_passages_o1 fl_astray_o2 fl_loops_o3 fl_steps fl_reached_o4 fl_matchingAside gr_nodes gr_links gr_start gr_end gr_linkBetween gr_wayLength gr_wayNext gr_wayLinks) → va_S A s.heap H locs → lv_has ls 9 [(0, .ref (ad 14)), (5, .int fl_reached)] → W p l e rm_X1_sendOn s m args below meth c H locs 0 0 Q (F0 m 131 ls [])) → ∀ (H : Heap) (locs : List Loc) (ls : Array Slot), va_P D vwCl (wdFG cI cJ ad fl_foldBits fl_passages_a9 fl_astray_a9 fl_loops_a9 fl_steps fl_reached_a9 fl_matchingAside gr_nodes gr_links gr_start gr_end gr_linkBetween gr_wayLength gr_wayNext gr_wayLinks) H → va_D A (wdFG cI cJ ad fl_foldBits fl_passages_a9 fl_astray_a9 fl_loops_a9 fl_steps fl_reached_a9 fl_matchingAside gr_nodes gr_links gr_start gr_end gr_linkBetween gr_wayLength gr_wayNext gr_wayLinks) → va_S A s.heap H locs → lv_has ls 9 [(0, .ref (ad 14)), (1, .ref (ad 3)), (2, .int x2), (3, .int x3), (4, .int x4), (5, .int fl_reached), (6, .int x6_a9)] → W p l e rm_X1_sendOn s m args below meth c H locs 0 0 Q (F0 m 9 ls []) := by
    intro n
    induction n with
    | zero =>
      intro fl_passages_a9 fl_astray_a9 fl_loops_a9 fl_reached_a9 x6_a9 fl_passages_o1 fl_astray_o2 fl_loops_o3 fl_reached_o4 h0
      exact oo_n h0
    | succ n ih =>
      intro fl_passages_a9 fl_astray_a9 fl_loops_a9 fl_reached_a9 x6_a9 fl_passages_o1 fl_astray_o2 fl_loops_o3 fl_reached_o4 hf kk H locs ls hP hD hS hl
      rw [f_X1_sendOn_L9_s] at hf
      refine lv_iload hx hb dX1_sendOn_9 (lv_at hl 6 rfl) ?_
      refine lv_aload_n hx hb dX1_sendOn_11 rfl (lv_at hl 1 rfl) ?_
      have F : Fr D A _ (wdG cI cJ ad gr_nodes gr_links gr_start gr_end gr_linkBetween gr_wayLength gr_wayNext gr_wayLinks) (wdG cI cJ ad gr_nodes gr_links gr_start gr_end gr_linkBetween gr_wayLength gr_wayNext gr_wayLinks) (wdFG cI cJ ad fl_foldBits fl_passages_a9 fl_astray_a9 fl_loops_a9 fl_steps fl_reached_a9 fl_matchingAside gr_nodes gr_links gr_start gr_end gr_linkBetween gr_wayLength gr_wayNext gr_wayLinks) := fr_FG_G hP hD hS hA
      refine kI F hS (rV (q := (RX2, TX2, 8)) (As := []) (rest := [.int x6_a9]) ⟨hx, hb, hml, hown, hts⟩ hK hN F (c_X2_linkCount l D cI cJ ad _ (gr_nodes := gr_nodes) (gr_links := gr_links) (gr_start := gr_start) (gr_end := gr_end) (gr_linkBetween := gr_linkBetween) (gr_wayLength := gr_wayLength) (gr_wayNext := gr_wayNext) (gr_wayLinks := gr_wayLinks)  (o_res := (f_X2_linkCount gr_links)) rfl) (cwV 0 hts gX1_sendOn_X2_linkCount rfl rfl rfl (by decide +kernel) ⟨Nat.le_of_ble_eq_true rfl, Nat.le_of_ble_eq_true rfl⟩) (ci := 2) rfl rfl rfl hl.1 rfl (Nat.le_of_ble_eq_true rfl) dX1_sendOn_12 ⟨Nat.zero_le _, Nat.zero_le _⟩) (fun H locs hP hD hS => ?_)
      refine lv_icmp_ge (tgt := 131) hx hb dX1_sendOn_15 (by decide) (fun c7 => ?_) (fun c7 => ?_)
      · have hf := oo_t hf c7
        cases hf
        exact kk _ _ _ hP hD hS (lv_sub hl [0, 5] rfl)
      · have hf := oo_f hf c7
        refine lv_iload hx hb dX1_sendOn_18 (lv_at hl 4 rfl) ?_
        refine lv_iload hx hb dX1_sendOn_20 (lv_at hl 6 rfl) ?_
        refine lv_ishr hx hb dX1_sendOn_22 ?_
        refine lv_iconst (v := (1 : Int32)) hx hb dX1_sendOn_23 (by decide) ?_
        refine lv_iand hx hb dX1_sendOn_24 ?_
        obtain ⟨k_8, hj10, hf⟩ := oo_b hf
        try dsimp only at hf
        have kj9 : ∀ (H : Heap) (locs : List Loc) (ls : Array Slot), va_P D vwCl (wdFG cI cJ ad fl_foldBits fl_passages_a9 fl_astray_a9 fl_loops_a9 fl_steps fl_reached_a9 fl_matchingAside gr_nodes gr_links gr_start gr_end gr_linkBetween gr_wayLength gr_wayNext gr_wayLinks) H → va_D A (wdFG cI cJ ad fl_foldBits fl_passages_a9 fl_astray_a9 fl_loops_a9 fl_steps fl_reached_a9 fl_matchingAside gr_nodes gr_links gr_start gr_end gr_linkBetween gr_wayLength gr_wayNext gr_wayLinks) → va_S A s.heap H locs → lv_has ls 9 [(0, .ref (ad 14)), (1, .ref (ad 3)), (2, .int x2), (3, .int x3), (4, .int x4), (5, .int fl_reached), (6, .int x6_a9)] → W p l e rm_X1_sendOn s m args below meth c H locs 0 0 Q (F0 m 46 ls [.int k_8]) := by
          intro H locs ls hP hD hS hl
          refine lv_istore (lv' := [(7, .int k_8), (0, .ref (ad 14)), (1, .ref (ad 3)), (2, .int x2), (3, .int x3), (4, .int x4), (5, .int fl_reached), (6, .int x6_a9)]) hx hb dX1_sendOn_46 hl (by decide) rfl (fun ls hl => ?_)
          refine lv_iload hx hb dX1_sendOn_48 (lv_at hl 0 rfl) ?_
          obtain ⟨⟨fl_passages_11, fl_astray_12, fl_loops_13, fl_reached_14⟩, hj16, hf⟩ := oo_b hf
          try dsimp only at hf
          have kj15 : ∀ (H : Heap) (locs : List Loc) (ls : Array Slot), va_P D vwCl (wdFG cI cJ ad fl_foldBits fl_passages_11 fl_astray_12 fl_loops_13 fl_steps fl_reached_14 fl_matchingAside gr_nodes gr_links gr_start gr_end gr_linkBetween gr_wayLength gr_wayNext gr_wayLinks) H → va_D A (wdFG cI cJ ad fl_foldBits fl_passages_11 fl_astray_12 fl_loops_13 fl_steps fl_reached_14 fl_matchingAside gr_nodes gr_links gr_start gr_end gr_linkBetween gr_wayLength gr_wayNext gr_wayLinks) → va_S A s.heap H locs → lv_has ls 9 [(0, .ref (ad 14)), (1, .ref (ad 3)), (2, .int x2), (3, .int x3), (4, .int x4), (5, .int fl_reached), (6, .int x6_a9)] → W p l e rm_X1_sendOn s m args below meth c H locs 0 0 Q (F0 m 125 ls []) := by
            intro H locs ls hP hD hS hl
            refine lv_iinc (v := (x6_a9 + (1 : Int32))) (lv' := [(6, .int (x6_a9 + (1 : Int32))), (0, .ref (ad 14)), (1, .ref (ad 3)), (2, .int x2), (3, .int x3), (4, .int x4), (5, .int fl_reached)]) hx hb dX1_sendOn_125 hl (k := 6) rfl rfl (by decide) rfl (fun ls hl => ?_)
            refine lv_goto (tgt := 9) hx hb dX1_sendOn_128 (by decide) ?_
            exact ih fl_passages_11 fl_astray_12 fl_loops_13 fl_reached_14 (x6_a9 + (1 : Int32)) _ _ _ _ hf kk _ _ _ hP hD hS (lv_sub hl [1, 2, 3, 4, 5, 6, 0] rfl)
          clear hf
          have hf := hj16
          clear hj16
          refine lv_if_eq (tgt := 125) hx hb dX1_sendOn_50 (by decide) (fun c17 => ?_) (fun c17 => ?_)
          · have hf := oo_t hf c17
            cases hf
            exact kj15 _ _ _ hP hD hS (lv_sub hl [1, 2, 3, 4, 5, 6, 7] rfl)
          · have hf := oo_f hf c17
            refine lv_aload_n hx hb dX1_sendOn_53 rfl (lv_at hl 1 rfl) ?_
            refine lv_dup hx hb dX1_sendOn_54 rfl ?_
            refine va_get (ci := 1) (v := .int fl_passages_a9) (C := RX1) (T := TX1) (N := 7) hx hb hts hin_X1 hown hK hP 0 rfl rfl 1 (by decide) fl_9 (fun _ h9 => h9) rfl dX1_sendOn_55 ?_
            refine lv_iconst (v := (1 : Int32)) hx hb dX1_sendOn_58 (by decide) ?_
            refine lv_iadd hx hb dX1_sendOn_59 ?_
            refine va_put (ci := 1) (v := .int (fl_passages_a9 + (1 : Int32))) (ty := .int) (C := RX1) (T := TX1) (N := 7) hx hb hts hin_X1 tyX1 tyX1_ok nmX1 hown hK hP hD hS 0 rfl rfl 1 (by decide) fl_9 (fun _ h9 => h9) rfl (by decide +kernel) rfl rfl (Nat.le_of_ble_eq_true rfl) dX1_sendOn_60 (fun H locs hP hD hS => ?_)
            have hP : va_P D vwCl (wdFG cI cJ ad fl_foldBits (fl_passages_a9 + (1 : Int32)) fl_astray_a9 fl_loops_a9 fl_steps fl_reached_a9 fl_matchingAside gr_nodes gr_links gr_start gr_end gr_linkBetween gr_wayLength gr_wayNext gr_wayLinks) H := hP
            have hD : va_D A (wdFG cI cJ ad fl_foldBits (fl_passages_a9 + (1 : Int32)) fl_astray_a9 fl_loops_a9 fl_steps fl_reached_a9 fl_matchingAside gr_nodes gr_links gr_start gr_end gr_linkBetween gr_wayLength gr_wayNext gr_wayLinks) := hD
            refine lv_aload_n hx hb dX1_sendOn_63 rfl (lv_at hl 1 rfl) ?_
            refine lv_dup hx hb dX1_sendOn_64 rfl ?_
            refine va_get (ci := 1) (v := .int fl_astray_a9) (C := RX1) (T := TX1) (N := 7) hx hb hts hin_X1 hown hK hP 0 rfl rfl 2 (by decide) fl_15 (fun _ h9 => h9) rfl dX1_sendOn_65 ?_
            refine lv_iconst (v := (1 : Int32)) hx hb dX1_sendOn_68 (by decide) ?_
            refine lv_iload_n hx hb dX1_sendOn_69 rfl (lv_at hl 4 rfl) ?_
            refine lv_iload hx hb dX1_sendOn_70 (lv_at hl 7 rfl) ?_
            refine lv_ishr hx hb dX1_sendOn_72 ?_
            refine lv_iconst (v := (1 : Int32)) hx hb dX1_sendOn_73 (by decide) ?_
            refine lv_iand hx hb dX1_sendOn_74 ?_
            refine lv_isub hx hb dX1_sendOn_75 ?_
            refine lv_iadd hx hb dX1_sendOn_76 ?_
            refine va_put (ci := 1) (v := .int (fl_astray_a9 + ((1 : Int32) - ((x3 >>> (x6_a9 &&& 31)) &&& (1 : Int32))))) (ty := .int) (C := RX1) (T := TX1) (N := 7) hx hb hts hin_X1 tyX1 tyX1_ok nmX1 hown hK hP hD hS 0 rfl rfl 2 (by decide) fl_15 (fun _ h9 => h9) rfl (by decide +kernel) rfl rfl (Nat.le_of_ble_eq_true rfl) dX1_sendOn_77 (fun H locs hP hD hS => ?_)
            have hP : va_P D vwCl (wdFG cI cJ ad fl_foldBits (fl_passages_a9 + (1 : Int32)) (fl_astray_a9 + ((1 : Int32) - ((x3 >>> (x6_a9 &&& 31)) &&& (1 : Int32)))) fl_loops_a9 fl_steps fl_reached_a9 fl_matchingAside gr_nodes gr_links gr_start gr_end gr_linkBetween gr_wayLength gr_wayNext gr_wayLinks) H := hP
            have hD : va_D A (wdFG cI cJ ad fl_foldBits (fl_passages_a9 + (1 : Int32)) (fl_astray_a9 + ((1 : Int32) - ((x3 >>> (x6_a9 &&& 31)) &&& (1 : Int32)))) fl_loops_a9 fl_steps fl_reached_a9 fl_matchingAside gr_nodes gr_links gr_start gr_end gr_linkBetween gr_wayLength gr_wayNext gr_wayLinks) := hD
            refine lv_iconst (v := (1 : Int32)) hx hb dX1_sendOn_80 (by decide) ?_
            refine lv_aload_n hx hb dX1_sendOn_81 rfl (lv_at hl 2 rfl) ?_
            refine lv_iload hx hb dX1_sendOn_82 (lv_at hl 7 rfl) ?_
            obtain ⟨r19, h18, hf⟩ := oo_b hf
            try dsimp only at hf
            have F : Fr D A _ (wdG cI cJ ad gr_nodes gr_links gr_start gr_end gr_linkBetween gr_wayLength gr_wayNext gr_wayLinks) (wdG cI cJ ad gr_nodes gr_links gr_start gr_end gr_linkBetween gr_wayLength gr_wayNext gr_wayLinks) (wdFG cI cJ ad fl_foldBits (fl_passages_a9 + (1 : Int32)) (fl_astray_a9 + ((1 : Int32) - ((x3 >>> (x6_a9 &&& 31)) &&& (1 : Int32)))) fl_loops_a9 fl_steps fl_reached_a9 fl_matchingAside gr_nodes gr_links gr_start gr_end gr_linkBetween gr_wayLength gr_wayNext gr_wayLinks) := fr_FG_G hP hD hS hA
            refine kI F hS (rV (q := (RX2, TX2, 8)) (As := [.int x6_a9]) (rest := [.int (1 : Int32)]) ⟨hx, hb, hml, hown, hts⟩ hK hN F (c_X2_endOf l D cI cJ ad _ (gr_nodes := gr_nodes) (gr_links := gr_links) (gr_start := gr_start) (gr_end := gr_end) (gr_linkBetween := gr_linkBetween) (gr_wayLength := gr_wayLength) (gr_wayNext := gr_wayNext) (gr_wayLinks := gr_wayLinks) x6_a9 (o_res := r19) h18) (cwV 1 hts gX1_sendOn_X2_endOf rfl rfl rfl (by decide +kernel) ⟨Nat.le_of_ble_eq_true rfl, Nat.le_of_ble_eq_true rfl⟩) (ci := 2) rfl rfl rfl hl.1 rfl (Nat.le_of_ble_eq_true rfl) dX1_sendOn_84 ⟨Nat.zero_le _, Nat.zero_le _⟩) (fun H locs hP hD hS => ?_)
            refine lv_ishl hx hb dX1_sendOn_87 ?_
            refine lv_istore (lv' := [(8, .int ((1 : Int32) <<< (r19 &&& 31))), (7, .int k_8), (0, .ref (ad 14)), (1, .ref (ad 3)), (2, .int x2), (3, .int x3), (4, .int x4), (5, .int fl_reached), (6, .int x6_a9)]) hx hb dX1_sendOn_88 hl (by decide) rfl (fun ls hl => ?_)
            refine lv_aload_n hx hb dX1_sendOn_90 rfl (lv_at hl 2 rfl) ?_
            refine lv_dup hx hb dX1_sendOn_91 rfl ?_
            refine va_get (ci := 1) (v := .int fl_loops_a9) (C := RX1) (T := TX1) (N := 7) hx hb hts hin_X1 hown hK hP 0 rfl rfl 3 (by decide) fl_18 (fun _ h9 => h9) rfl dX1_sendOn_92 ?_
            refine lv_aload_n hx hb dX1_sendOn_95 rfl (lv_at hl 2 rfl) ?_
            refine va_get (ci := 1) (v := .int fl_reached_a9) (C := RX1) (T := TX1) (N := 7) hx hb hts hin_X1 hown hK hP 0 rfl rfl 5 (by decide) fl_24 (fun _ h9 => h9) rfl dX1_sendOn_96 ?_
            refine lv_iload hx hb dX1_sendOn_99 (lv_at hl 0 rfl) ?_
            refine lv_iand hx hb dX1_sendOn_101 ?_
            have kj22 : ∀ (k_21 : Int32), k_21 = (if (fl_reached_a9 &&& ((1 : Int32) <<< (r19 &&& 31))) = (0 : Int32) then (0 : Int32) else (1 : Int32)) → ∀ (H : Heap) (locs : List Loc) (ls : Array Slot), va_P D vwCl (wdFG cI cJ ad fl_foldBits (fl_passages_a9 + (1 : Int32)) (fl_astray_a9 + ((1 : Int32) - ((x3 >>> (x6_a9 &&& 31)) &&& (1 : Int32)))) fl_loops_a9 fl_steps fl_reached_a9 fl_matchingAside gr_nodes gr_links gr_start gr_end gr_linkBetween gr_wayLength gr_wayNext gr_wayLinks) H → va_D A (wdFG cI cJ ad fl_foldBits (fl_passages_a9 + (1 : Int32)) (fl_astray_a9 + ((1 : Int32) - ((x3 >>> (x6_a9 &&& 31)) &&& (1 : Int32)))) fl_loops_a9 fl_steps fl_reached_a9 fl_matchingAside gr_nodes gr_links gr_start gr_end gr_linkBetween gr_wayLength gr_wayNext gr_wayLinks) → va_S A s.heap H locs → lv_has ls 9 [(0, .ref (ad 14)), (1, .ref (ad 3)), (2, .int x2), (3, .int x3), (4, .int x4), (5, .int fl_reached), (6, .int x6_a9), (8, .int ((1 : Int32) <<< (r19 &&& 31)))] → W p l e rm_X1_sendOn s m args below meth c H locs 0 0 Q (F0 m 110 ls [.int k_21, .int fl_loops_a9, .ref (ad 14)]) := by
              intro k_21 ek_21
              subst ek_21
              intro H locs ls hP hD hS hl
              refine lv_iadd hx hb dX1_sendOn_110 ?_
              refine va_put (ci := 1) (v := .int (fl_loops_a9 + (if (fl_reached_a9 &&& ((1 : Int32) <<< (r19 &&& 31))) = (0 : Int32) then (0 : Int32) else (1 : Int32)))) (ty := .int) (C := RX1) (T := TX1) (N := 7) hx hb hts hin_X1 tyX1 tyX1_ok nmX1 hown hK hP hD hS 0 rfl rfl 3 (by decide) fl_18 (fun _ h9 => h9) rfl (by decide +kernel) rfl rfl (Nat.le_of_ble_eq_true rfl) dX1_sendOn_111 (fun H locs hP hD hS => ?_)
              have hP : va_P D vwCl (wdFG cI cJ ad fl_foldBits (fl_passages_a9 + (1 : Int32)) (fl_astray_a9 + ((1 : Int32) - ((x3 >>> (x6_a9 &&& 31)) &&& (1 : Int32)))) (fl_loops_a9 + (if (fl_reached_a9 &&& ((1 : Int32) <<< (r19 &&& 31))) = (0 : Int32) then (0 : Int32) else (1 : Int32))) fl_steps fl_reached_a9 fl_matchingAside gr_nodes gr_links gr_start gr_end gr_linkBetween gr_wayLength gr_wayNext gr_wayLinks) H := hP
              have hD : va_D A (wdFG cI cJ ad fl_foldBits (fl_passages_a9 + (1 : Int32)) (fl_astray_a9 + ((1 : Int32) - ((x3 >>> (x6_a9 &&& 31)) &&& (1 : Int32)))) (fl_loops_a9 + (if (fl_reached_a9 &&& ((1 : Int32) <<< (r19 &&& 31))) = (0 : Int32) then (0 : Int32) else (1 : Int32))) fl_steps fl_reached_a9 fl_matchingAside gr_nodes gr_links gr_start gr_end gr_linkBetween gr_wayLength gr_wayNext gr_wayLinks) := hD
              refine lv_aload_n hx hb dX1_sendOn_114 rfl (lv_at hl 0 rfl) ?_
              refine lv_dup hx hb dX1_sendOn_115 rfl ?_
              refine va_get (ci := 1) (v := .int fl_reached_a9) (C := RX1) (T := TX1) (N := 7) hx hb hts hin_X1 hown hK hP 0 rfl rfl 5 (by decide) fl_24 (fun _ h9 => h9) rfl dX1_sendOn_116 ?_
              refine lv_iload hx hb dX1_sendOn_119 (lv_at hl 7 rfl) ?_
              refine lv_ior hx hb dX1_sendOn_121 ?_
              refine va_put (ci := 1) (v := .int (fl_reached_a9 ||| ((1 : Int32) <<< (r19 &&& 31)))) (ty := .int) (C := RX1) (T := TX1) (N := 7) hx hb hts hin_X1 tyX1 tyX1_ok nmX1 hown hK hP hD hS 0 rfl rfl 5 (by decide) fl_24 (fun _ h9 => h9) rfl (by decide +kernel) rfl rfl (Nat.le_of_ble_eq_true rfl) dX1_sendOn_122 (fun H locs hP hD hS => ?_)
              have hP : va_P D vwCl (wdFG cI cJ ad fl_foldBits (fl_passages_a9 + (1 : Int32)) (fl_astray_a9 + ((1 : Int32) - ((x3 >>> (x6_a9 &&& 31)) &&& (1 : Int32)))) (fl_loops_a9 + (if (fl_reached_a9 &&& ((1 : Int32) <<< (r19 &&& 31))) = (0 : Int32) then (0 : Int32) else (1 : Int32))) fl_steps (fl_reached_a9 ||| ((1 : Int32) <<< (r19 &&& 31))) fl_matchingAside gr_nodes gr_links gr_start gr_end gr_linkBetween gr_wayLength gr_wayNext gr_wayLinks) H := hP
              have hD : va_D A (wdFG cI cJ ad fl_foldBits (fl_passages_a9 + (1 : Int32)) (fl_astray_a9 + ((1 : Int32) - ((x3 >>> (x6_a9 &&& 31)) &&& (1 : Int32)))) (fl_loops_a9 + (if (fl_reached_a9 &&& ((1 : Int32) <<< (r19 &&& 31))) = (0 : Int32) then (0 : Int32) else (1 : Int32))) fl_steps (fl_reached_a9 ||| ((1 : Int32) <<< (r19 &&& 31))) fl_matchingAside gr_nodes gr_links gr_start gr_end gr_linkBetween gr_wayLength gr_wayNext gr_wayLinks) := hD
              cases hf
              exact kj15 _ _ _ hP hD hS (lv_sub hl [0, 1, 2, 3, 4, 5, 6] rfl)
            refine lv_if_eq (tgt := 109) hx hb dX1_sendOn_102 (by decide) (fun c23 => ?_) (fun c23 => ?_)
            · refine lv_iconst (v := (0 : Int32)) hx hb dX1_sendOn_109 (by decide) ?_
              exact kj22 (0 : Int32) (if_pos c23).symm _ _ _ hP hD hS (lv_sub hl [2, 3, 4, 5, 6, 7, 8, 0] rfl)
            · refine lv_iconst (v := (1 : Int32)) hx hb dX1_sendOn_105 (by decide) ?_
              refine lv_goto (tgt := 110) hx hb dX1_sendOn_106 (by decide) ?_
              exact kj22 (1 : Int32) (if_neg c23).symm _ _ _ hP hD hS (lv_sub hl [2, 3, 4, 5, 6, 7, 8, 0] rfl)
        clear hf
        have hf := hj10
        clear hj10
        refine lv_if_eq (tgt := 45) hx hb dX1_sendOn_25 (by decide) (fun c24 => ?_) (fun c24 => ?_)
        · have hf := oo_t hf c24
          refine lv_iconst (v := (0 : Int32)) hx hb dX1_sendOn_45 (by decide) ?_
          cases hf
          exact kj9 _ _ _ hP hD hS (lv_sub hl [0, 1, 2, 3, 4, 5, 6] rfl)
        · have hf := oo_f hf c24
          refine lv_iload_n hx hb dX1_sendOn_28 rfl (lv_at hl 2 rfl) ?_
          refine lv_aload_n hx hb dX1_sendOn_29 rfl (lv_at hl 1 rfl) ?_
          refine lv_iload hx hb dX1_sendOn_30 (lv_at hl 6 rfl) ?_
          obtain ⟨r26, h25, hf⟩ := oo_b hf
          try dsimp only at hf
          have F : Fr D A _ (wdG cI cJ ad gr_nodes gr_links gr_start gr_end gr_linkBetween gr_wayLength gr_wayNext gr_wayLinks) (wdG cI cJ ad gr_nodes gr_links gr_start gr_end gr_linkBetween gr_wayLength gr_wayNext gr_wayLinks) (wdFG cI cJ ad fl_foldBits fl_passages_a9 fl_astray_a9 fl_loops_a9 fl_steps fl_reached_a9 fl_matchingAside gr_nodes gr_links gr_start gr_end gr_linkBetween gr_wayLength gr_wayNext gr_wayLinks) := fr_FG_G hP hD hS hA
          refine kI F hS (rV (q := (RX2, TX2, 8)) (As := [.int x6_a9]) (rest := [.int x2]) ⟨hx, hb, hml, hown, hts⟩ hK hN F (c_X2_startOf l D cI cJ ad _ (gr_nodes := gr_nodes) (gr_links := gr_links) (gr_start := gr_start) (gr_end := gr_end) (gr_linkBetween := gr_linkBetween) (gr_wayLength := gr_wayLength) (gr_wayNext := gr_wayNext) (gr_wayLinks := gr_wayLinks) x6_a9 (o_res := r26) h25) (cwV 1 hts gX1_sendOn_X2_startOf rfl rfl rfl (by decide +kernel) ⟨Nat.le_of_ble_eq_true rfl, Nat.le_of_ble_eq_true rfl⟩) (ci := 2) rfl rfl rfl hl.1 rfl (Nat.le_of_ble_eq_true rfl) dX1_sendOn_32 ⟨Nat.zero_le _, Nat.zero_le _⟩) (fun H locs hP hD hS => ?_)
          refine lv_ishr hx hb dX1_sendOn_35 ?_
          refine lv_iconst (v := (1 : Int32)) hx hb dX1_sendOn_36 (by decide) ?_
          refine lv_iand hx hb dX1_sendOn_37 ?_
          refine lv_if_eq (tgt := 45) hx hb dX1_sendOn_38 (by decide) (fun c28 => ?_) (fun c28 => ?_)
          · have hf := oo_t hf c28
            refine lv_iconst (v := (0 : Int32)) hx hb dX1_sendOn_45 (by decide) ?_
            cases hf
            exact kj9 _ _ _ hP hD hS (lv_sub hl [0, 1, 2, 3, 4, 5, 6] rfl)
          · have hf := oo_f hf c28
            refine lv_iconst (v := (1 : Int32)) hx hb dX1_sendOn_41 (by decide) ?_
            refine lv_goto (tgt := 46) hx hb dX1_sendOn_42 (by decide) ?_
            cases hf
            exact kj9 _ _ _ hP hD hS (lv_sub hl [0, 1, 2, 3, 4, 5, 6] rfl)
  obtain ⟨⟨fl_passages_o1, fl_astray_o2, fl_loops_o3, fl_reached_o4⟩, h29, hf⟩ := oo_b hf
  try dsimp only at hf
  refine lp5  100 fl_passages fl_astray fl_loops fl_reached (0 : Int32) fl_passages_o1 fl_astray_o2 fl_loops_o3 fl_reached_o4 h29 (fun H locs ls hP hD hS hl => ?_) _ _ _ hP hD hS (lv_sub hl [2, 3, 4, 5, 6, 1, 0] rfl)
  refine lv_aload_n hx hb dX1_sendOn_131 rfl (lv_at hl 0 rfl) ?_
  refine va_get (ci := 1) (v := .int fl_reached_o4) (C := RX1) (T := TX1) (N := 7) hx hb hts hin_X1 hown hK hP 0 rfl rfl 5 (by decide) fl_24 (fun _ h9 => h9) rfl dX1_sendOn_132 ?_
  refine lv_iload hx hb dX1_sendOn_135 (lv_at hl 1 rfl) ?_
  refine lv_iconst (v := (-1 : Int32)) hx hb dX1_sendOn_137 (by decide) ?_
  refine lv_ixor hx hb dX1_sendOn_138 ?_
  refine lv_iand hx hb dX1_sendOn_139 ?_
  cases hf
  exact hret _ _ _ _ dX1_sendOn_140 hP hD hS
def f_X1_run_L49 (gr_links : Int32) (gr_start : Nat → Int32) (gr_end : Nat → Int32) (x3 : Int32) (x4 : Int32) : Nat → Int32 → Int32 → Int32 → Int32 → Int32 → Int32 → Int32 → Option (Int32 × Int32 × Int32 × Int32 × Int32)
  | 0, _, _, _, _, _, _, _ => none
  | n + 1, fl_passages_a49, fl_astray_a49, fl_loops_a49, fl_steps_a49, fl_reached_a49, x5_a49, x6_a49 =>
      if (6 : Int32) ≤ x6_a49 then
        some (fl_passages_a49, fl_astray_a49, fl_loops_a49, fl_steps_a49, fl_reached_a49)
      else
        if x5_a49 = (0 : Int32) then
          some (fl_passages_a49, fl_astray_a49, fl_loops_a49, fl_steps_a49, fl_reached_a49)
        else
          Option.bind (f_X1_sendOn fl_passages_a49 fl_astray_a49 fl_loops_a49 fl_reached_a49 gr_links gr_start gr_end x5_a49 x3 x4) fun (r11, fl_passages_12, fl_astray_13, fl_loops_14, fl_reached_15) =>
          f_X1_run_L49 gr_links gr_start gr_end x3 x4 n fl_passages_12 fl_astray_13 fl_loops_14 (fl_steps_a49 + (1 : Int32)) fl_reached_15 r11 (x6_a49 + (1 : Int32))
theorem f_X1_run_L49_s (gr_links : Int32) (gr_start : Nat → Int32) (gr_end : Nat → Int32) (x3 : Int32) (x4 : Int32) (n : Nat) (fl_passages_a49 : Int32) (fl_astray_a49 : Int32) (fl_loops_a49 : Int32) (fl_steps_a49 : Int32) (fl_reached_a49 : Int32) (x5_a49 : Int32) (x6_a49 : Int32) : f_X1_run_L49 gr_links gr_start gr_end x3 x4 (n + 1) fl_passages_a49 fl_astray_a49 fl_loops_a49 fl_steps_a49 fl_reached_a49 x5_a49 x6_a49 =
      (if (6 : Int32) ≤ x6_a49 then
        some (fl_passages_a49, fl_astray_a49, fl_loops_a49, fl_steps_a49, fl_reached_a49)
      else
        if x5_a49 = (0 : Int32) then
          some (fl_passages_a49, fl_astray_a49, fl_loops_a49, fl_steps_a49, fl_reached_a49)
        else
          Option.bind (f_X1_sendOn fl_passages_a49 fl_astray_a49 fl_loops_a49 fl_reached_a49 gr_links gr_start gr_end x5_a49 x3 x4) fun (r11, fl_passages_12, fl_astray_13, fl_loops_14, fl_reached_15) =>
          f_X1_run_L49 gr_links gr_start gr_end x3 x4 n fl_passages_12 fl_astray_13 fl_loops_14 (fl_steps_a49 + (1 : Int32)) fl_reached_15 r11 (x6_a49 + (1 : Int32))) := rfl
def f_X1_run (gr_links : Int32) (gr_start : Nat → Int32) (gr_end : Nat → Int32) (x2 : Int32) (x3 : Int32) (x4 : Int32) : Option (Int32 × Int32 × Int32 × Int32 × Int32 × Int32) :=
  Option.bind (f_X1_run_L49 gr_links gr_start gr_end x3 x4 100 (0 : Int32) (0 : Int32) (0 : Int32) (0 : Int32) ((1 : Int32) <<< (x2 &&& 31)) ((1 : Int32) <<< (x2 &&& 31)) (0 : Int32)) fun (fl_passages_o2, fl_astray_o3, fl_loops_o4, fl_steps_o5, fl_reached_o6) =>
  some (fl_passages_o2, fl_astray_o3, fl_loops_o4, fl_steps_o5, fl_reached_o6, (f_J6_bitCount_0f7a4 (x4 &&& (x3 ^^^ (-1 : Int32)))))
abbrev rm_X1_run : Room := { frames := 2, cells := 0, slots := 0, locals := 49 }
set_option maxHeartbeats 4000000 in
set_option maxRecDepth 100000 in
theorem c_X1_run (l : Launch) (D : va_G) (cI cJ : ClassId) (ad : Nat → Nat) (sz : Nat) {fl_foldBits fl_passages fl_astray fl_loops fl_steps fl_reached fl_matchingAside gr_nodes gr_links : Int32} {gr_start gr_end gr_linkBetween gr_wayLength gr_wayNext gr_wayLinks : Nat → Int32} (x2 : Int32) (x3 : Int32) (x4 : Int32) {o_fl_passages : Int32} {o_fl_astray : Int32} {o_fl_loops : Int32} {o_fl_steps : Int32} {o_fl_reached : Int32} {o_fl_matchingAside : Int32} (hf : f_X1_run gr_links gr_start gr_end x2 x3 x4 = some (o_fl_passages, o_fl_astray, o_fl_loops, o_fl_steps, o_fl_reached, o_fl_matchingAside)) : CtV l yX1_run wsX1_run rm_X1_run D cI cJ [.ref (ad 14), .ref (ad 3), .int x2, .int x3, .int x4] (wdFG cI cJ ad fl_foldBits fl_passages fl_astray fl_loops fl_steps fl_reached fl_matchingAside gr_nodes gr_links gr_start gr_end gr_linkBetween gr_wayLength gr_wayNext gr_wayLinks) sz (wdFG cI cJ ad fl_foldBits o_fl_passages o_fl_astray o_fl_loops o_fl_steps o_fl_reached o_fl_matchingAside gr_nodes gr_links gr_start gr_end gr_linkBetween gr_wayLength gr_wayNext gr_wayLinks) := by
  refine ctV_of (cc := cX1_run) (maxL := 7) (by decide) rfl (Nat.le_of_ble_eq_true rfl) ?_
  intro p e s m below meth c Q A hx hb hml hown hts hK hN hA hret ls hl hP hD hS
  obtain ⟨args, hargs⟩ : ∃ a : Array Value, a = [.ref (ad 14), .ref (ad 3), .int x2, .int x3, .int x4].toArray := ⟨_, rfl⟩
  rw [← hargs] at hts hret ⊢
  have hown : s.vm.findClass RX1 = some m.cls := hown
  have hl : lv_has ls 7 [(0, .ref (ad 14)), (1, .ref (ad 3)), (2, .int x2), (3, .int x3), (4, .int x4)] := hl
  have hin_X1 : ∀ w ∈ wsX10, w ∈ wsX1_run := fun _ h => List.mem_cons_of_mem _ (List.mem_append_left _ (List.mem_append_right _ h))
  have fl_9 : (Cond.fieldLink RX1 9 "FoldedWays$Flow" "passages" "I").before args s = true := hat hts 1 rfl
  have fl_15 : (Cond.fieldLink RX1 15 "FoldedWays$Flow" "astray" "I").before args s = true := hat hts 2 rfl
  have fl_18 : (Cond.fieldLink RX1 18 "FoldedWays$Flow" "loops" "I").before args s = true := hat hts 3 rfl
  have fl_21 : (Cond.fieldLink RX1 21 "FoldedWays$Flow" "steps" "I").before args s = true := hat hts 4 rfl
  have fl_24 : (Cond.fieldLink RX1 24 "FoldedWays$Flow" "reached" "I").before args s = true := hat hts 5 rfl
  have fl_33 : (Cond.fieldLink RX1 33 "FoldedWays$Flow" "matchingAside" "I").before args s = true := hat hts 6 rfl
  unfold f_X1_run at hf
  refine lv_aload_n hx hb dX1_run_0 rfl (lv_at hl 0 rfl) ?_
  refine lv_iconst (v := (0 : Int32)) hx hb dX1_run_1 (by decide) ?_
  refine va_put (ci := 1) (v := .int (0 : Int32)) (ty := .int) (C := RX1) (T := TX1) (N := 7) hx hb hts hin_X1 tyX1 tyX1_ok nmX1 hown hK hP hD hS 0 rfl rfl 1 (by decide) fl_9 (fun _ h9 => h9) rfl (by decide +kernel) rfl rfl (Nat.le_of_ble_eq_true rfl) dX1_run_2 (fun H locs hP hD hS => ?_)
  have hP : va_P D vwCl (wdFG cI cJ ad fl_foldBits (0 : Int32) fl_astray fl_loops fl_steps fl_reached fl_matchingAside gr_nodes gr_links gr_start gr_end gr_linkBetween gr_wayLength gr_wayNext gr_wayLinks) H := hP
  have hD : va_D A (wdFG cI cJ ad fl_foldBits (0 : Int32) fl_astray fl_loops fl_steps fl_reached fl_matchingAside gr_nodes gr_links gr_start gr_end gr_linkBetween gr_wayLength gr_wayNext gr_wayLinks) := hD
  refine lv_aload_n hx hb dX1_run_5 rfl (lv_at hl 0 rfl) ?_
  refine lv_iconst (v := (0 : Int32)) hx hb dX1_run_6 (by decide) ?_
  refine va_put (ci := 1) (v := .int (0 : Int32)) (ty := .int) (C := RX1) (T := TX1) (N := 7) hx hb hts hin_X1 tyX1 tyX1_ok nmX1 hown hK hP hD hS 0 rfl rfl 2 (by decide) fl_15 (fun _ h9 => h9) rfl (by decide +kernel) rfl rfl (Nat.le_of_ble_eq_true rfl) dX1_run_7 (fun H locs hP hD hS => ?_)
  have hP : va_P D vwCl (wdFG cI cJ ad fl_foldBits (0 : Int32) (0 : Int32) fl_loops fl_steps fl_reached fl_matchingAside gr_nodes gr_links gr_start gr_end gr_linkBetween gr_wayLength gr_wayNext gr_wayLinks) H := hP
  have hD : va_D A (wdFG cI cJ ad fl_foldBits (0 : Int32) (0 : Int32) fl_loops fl_steps fl_reached fl_matchingAside gr_nodes gr_links gr_start gr_end gr_linkBetween gr_wayLength gr_wayNext gr_wayLinks) := hD
  refine lv_aload_n hx hb dX1_run_10 rfl (lv_at hl 0 rfl) ?_
  refine lv_iconst (v := (0 : Int32)) hx hb dX1_run_11 (by decide) ?_
  refine va_put (ci := 1) (v := .int (0 : Int32)) (ty := .int) (C := RX1) (T := TX1) (N := 7) hx hb hts hin_X1 tyX1 tyX1_ok nmX1 hown hK hP hD hS 0 rfl rfl 3 (by decide) fl_18 (fun _ h9 => h9) rfl (by decide +kernel) rfl rfl (Nat.le_of_ble_eq_true rfl) dX1_run_12 (fun H locs hP hD hS => ?_)
  have hP : va_P D vwCl (wdFG cI cJ ad fl_foldBits (0 : Int32) (0 : Int32) (0 : Int32) fl_steps fl_reached fl_matchingAside gr_nodes gr_links gr_start gr_end gr_linkBetween gr_wayLength gr_wayNext gr_wayLinks) H := hP
  have hD : va_D A (wdFG cI cJ ad fl_foldBits (0 : Int32) (0 : Int32) (0 : Int32) fl_steps fl_reached fl_matchingAside gr_nodes gr_links gr_start gr_end gr_linkBetween gr_wayLength gr_wayNext gr_wayLinks) := hD
  refine lv_aload_n hx hb dX1_run_15 rfl (lv_at hl 0 rfl) ?_
  refine lv_iconst (v := (0 : Int32)) hx hb dX1_run_16 (by decide) ?_
  refine va_put (ci := 1) (v := .int (0 : Int32)) (ty := .int) (C := RX1) (T := TX1) (N := 7) hx hb hts hin_X1 tyX1 tyX1_ok nmX1 hown hK hP hD hS 0 rfl rfl 4 (by decide) fl_21 (fun _ h9 => h9) rfl (by decide +kernel) rfl rfl (Nat.le_of_ble_eq_true rfl) dX1_run_17 (fun H locs hP hD hS => ?_)
  have hP : va_P D vwCl (wdFG cI cJ ad fl_foldBits (0 : Int32) (0 : Int32) (0 : Int32) (0 : Int32) fl_reached fl_matchingAside gr_nodes gr_links gr_start gr_end gr_linkBetween gr_wayLength gr_wayNext gr_wayLinks) H := hP
  have hD : va_D A (wdFG cI cJ ad fl_foldBits (0 : Int32) (0 : Int32) (0 : Int32) (0 : Int32) fl_reached fl_matchingAside gr_nodes gr_links gr_start gr_end gr_linkBetween gr_wayLength gr_wayNext gr_wayLinks) := hD
  refine lv_aload_n hx hb dX1_run_20 rfl (lv_at hl 0 rfl) ?_
  refine lv_iconst (v := (1 : Int32)) hx hb dX1_run_21 (by decide) ?_
  refine lv_iload_n hx hb dX1_run_22 rfl (lv_at hl 2 rfl) ?_
  refine lv_ishl hx hb dX1_run_23 ?_
  refine va_put (ci := 1) (v := .int ((1 : Int32) <<< (x2 &&& 31))) (ty := .int) (C := RX1) (T := TX1) (N := 7) hx hb hts hin_X1 tyX1 tyX1_ok nmX1 hown hK hP hD hS 0 rfl rfl 5 (by decide) fl_24 (fun _ h9 => h9) rfl (by decide +kernel) rfl rfl (Nat.le_of_ble_eq_true rfl) dX1_run_24 (fun H locs hP hD hS => ?_)
  have hP : va_P D vwCl (wdFG cI cJ ad fl_foldBits (0 : Int32) (0 : Int32) (0 : Int32) (0 : Int32) ((1 : Int32) <<< (x2 &&& 31)) fl_matchingAside gr_nodes gr_links gr_start gr_end gr_linkBetween gr_wayLength gr_wayNext gr_wayLinks) H := hP
  have hD : va_D A (wdFG cI cJ ad fl_foldBits (0 : Int32) (0 : Int32) (0 : Int32) (0 : Int32) ((1 : Int32) <<< (x2 &&& 31)) fl_matchingAside gr_nodes gr_links gr_start gr_end gr_linkBetween gr_wayLength gr_wayNext gr_wayLinks) := hD
  refine lv_aload_n hx hb dX1_run_27 rfl (lv_at hl 0 rfl) ?_
  refine lv_iload hx hb dX1_run_28 (lv_at hl 4 rfl) ?_
  refine lv_iload_n hx hb dX1_run_30 rfl (lv_at hl 3 rfl) ?_
  refine lv_iconst (v := (-1 : Int32)) hx hb dX1_run_31 (by decide) ?_
  refine lv_ixor hx hb dX1_run_32 ?_
  refine lv_iand hx hb dX1_run_33 ?_
  have F : Fr D A _ [] [] (wdFG cI cJ ad fl_foldBits (0 : Int32) (0 : Int32) (0 : Int32) (0 : Int32) ((1 : Int32) <<< (x2 &&& 31)) fl_matchingAside gr_nodes gr_links gr_start gr_end gr_linkBetween gr_wayLength gr_wayNext gr_wayLinks) := fr_nil hP hD hS hA
  refine kI F hS (rS (As := [.int (x4 &&& (x3 ^^^ (-1 : Int32)))]) (rest := [.ref (ad 14)]) ⟨hx, hb, hml, hown, hts⟩ hK hN F (c_J6_bitCount_0f7a4 l D cI cJ ad _  (x4 &&& (x3 ^^^ (-1 : Int32))) (o_res := (f_J6_bitCount_0f7a4 (x4 &&& (x3 ^^^ (-1 : Int32))))) rfl) (va_cwS 1 hts gX1_run_J6_bitCount_0f7a4 rfl rfl rfl (by decide +kernel) ⟨Nat.le_of_ble_eq_true rfl, Nat.le_of_ble_eq_true rfl⟩) rfl hl.1 rfl (Nat.le_of_ble_eq_true rfl) dX1_run_34 ⟨Nat.zero_le _, Nat.zero_le _⟩) (fun H locs hP hD hS => ?_)
  refine va_put (ci := 1) (v := .int (f_J6_bitCount_0f7a4 (x4 &&& (x3 ^^^ (-1 : Int32))))) (ty := .int) (C := RX1) (T := TX1) (N := 7) hx hb hts hin_X1 tyX1 tyX1_ok nmX1 hown hK hP hD hS 0 rfl rfl 6 (by decide) fl_33 (fun _ h9 => h9) rfl (by decide +kernel) rfl rfl (Nat.le_of_ble_eq_true rfl) dX1_run_37 (fun H locs hP hD hS => ?_)
  have hP : va_P D vwCl (wdFG cI cJ ad fl_foldBits (0 : Int32) (0 : Int32) (0 : Int32) (0 : Int32) ((1 : Int32) <<< (x2 &&& 31)) (f_J6_bitCount_0f7a4 (x4 &&& (x3 ^^^ (-1 : Int32)))) gr_nodes gr_links gr_start gr_end gr_linkBetween gr_wayLength gr_wayNext gr_wayLinks) H := hP
  have hD : va_D A (wdFG cI cJ ad fl_foldBits (0 : Int32) (0 : Int32) (0 : Int32) (0 : Int32) ((1 : Int32) <<< (x2 &&& 31)) (f_J6_bitCount_0f7a4 (x4 &&& (x3 ^^^ (-1 : Int32)))) gr_nodes gr_links gr_start gr_end gr_linkBetween gr_wayLength gr_wayNext gr_wayLinks) := hD
  refine lv_aload_n hx hb dX1_run_40 rfl (lv_at hl 0 rfl) ?_
  refine va_get (ci := 1) (v := .int ((1 : Int32) <<< (x2 &&& 31))) (C := RX1) (T := TX1) (N := 7) hx hb hts hin_X1 hown hK hP 0 rfl rfl 5 (by decide) fl_24 (fun _ h9 => h9) rfl dX1_run_41 ?_
  refine lv_istore (lv' := [(5, .int ((1 : Int32) <<< (x2 &&& 31))), (0, .ref (ad 14)), (1, .ref (ad 3)), (2, .int x2), (3, .int x3), (4, .int x4)]) hx hb dX1_run_44 hl (by decide) rfl (fun ls hl => ?_)
  refine lv_iconst (v := (0 : Int32)) hx hb dX1_run_46 (by decide) ?_
  refine lv_istore (lv' := [(6, .int (0 : Int32)), (5, .int ((1 : Int32) <<< (x2 &&& 31))), (0, .ref (ad 14)), (1, .ref (ad 3)), (2, .int x2), (3, .int x3), (4, .int x4)]) hx hb dX1_run_47 hl (by decide) rfl (fun ls hl => ?_)
  have lp7 : ∀ (n : Nat) (fl_passages_a49 : Int32) (fl_astray_a49 : Int32) (fl_loops_a49 : Int32) (fl_steps_a49 : Int32) (fl_reached_a49 : Int32) (x5_a49 : Int32) (x6_a49 : Int32) (fl_passages_o2 : Int32) (fl_astray_o3 : Int32) (fl_loops_o4 : Int32) (fl_steps_o5 : Int32) (fl_reached_o6 : Int32), f_X1_run_L49 gr_links gr_start gr_end x3 x4 n fl_passages_a49 fl_astray_a49 fl_loops_a49 fl_steps_a49 fl_reached_a49 x5_a49 x6_a49 = some (fl_passages_o2, fl_astray_o3, fl_loops_o4, fl_steps_o5, fl_reached_o6) → (∀ (H : Heap) (locs : List Loc) (ls : Array Slot), va_P D vwCl (wdFG cI cJ ad fl_foldBits fl_passages_o2 fl_astray_o3 fl_loops_o4 fl_steps_o5 fl_reached_o6 (f_J6_bitCount_0f7a4 (x4 &&& (x3 ^^^ (-1 : Int32)))) gr_nodes gr_links gr_start gr_end gr_linkBetween gr_wayLength gr_wayNext gr_wayLinks) H → va_D A (wdFG cI cJ ad fl_foldBits fl_passages_o2 fl_astray_o3 fl_loops_o4 fl_steps_o5 fl_reached_o6 (f_J6_bitCount_0f7a4 (x4 &&& (x3 ^^^ (-1 : Int32)))) gr_nodes gr_links gr_start gr_end gr_linkBetween gr_wayLength gr_wayNext gr_wayLinks) → va_S A s.heap H locs → lv_has ls 7 [] → W p l e rm_X1_run s m args below meth c H locs 0 0 Q (F0 m 89 ls [])) → ∀ (H : Heap) (locs : List Loc) (ls : Array Slot), va_P D vwCl (wdFG cI cJ ad fl_foldBits fl_passages_a49 fl_astray_a49 fl_loops_a49 fl_steps_a49 fl_reached_a49 (f_J6_bitCount_0f7a4 (x4 &&& (x3 ^^^ (-1 : Int32)))) gr_nodes gr_links gr_start gr_end gr_linkBetween gr_wayLength gr_wayNext gr_wayLinks) H → va_D A (wdFG cI cJ ad fl_foldBits fl_passages_a49 fl_astray_a49 fl_loops_a49 fl_steps_a49 fl_reached_a49 (f_J6_bitCount_0f7a4 (x4 &&& (x3 ^^^ (-1 : Int32)))) gr_nodes gr_links gr_start gr_end gr_linkBetween gr_wayLength gr_wayNext gr_wayLinks) → va_S A s.heap H locs → lv_has ls 7 [(0, .ref (ad 14)), (1, .ref (ad 3)), (3, .int x3), (4, .int x4), (5, .int x5_a49), (6, .int x6_a49)] → W p l e rm_X1_run s m args below meth c H locs 0 0 Q (F0 m 49 ls []) := by
    intro n
    induction n with
    | zero =>
      intro fl_passages_a49 fl_astray_a49 fl_loops_a49 fl_steps_a49 fl_reached_a49 x5_a49 x6_a49 fl_passages_o2 fl_astray_o3 fl_loops_o4 fl_steps_o5 fl_reached_o6 h0
      exact oo_n h0
    | succ n ih =>
      intro fl_passages_a49 fl_astray_a49 fl_loops_a49 fl_steps_a49 fl_reached_a49 x5_a49 x6_a49 fl_passages_o2 fl_astray_o3 fl_loops_o4 fl_steps_o5 fl_reached_o6 hf kk H locs ls hP hD hS hl
      rw [f_X1_run_L49_s] at hf
      refine lv_iload hx hb dX1_run_49 (lv_at hl 5 rfl) ?_
      refine lv_bipush (v := (6 : Int32)) hx hb dX1_run_51 (by decide) ?_
      refine lv_icmp_ge (tgt := 89) hx hb dX1_run_53 (by decide) (fun c8 => ?_) (fun c8 => ?_)
      · have hf := oo_t hf c8
        cases hf
        exact kk _ _ _ hP hD hS (lv_sub hl [] rfl)
      · have hf := oo_f hf c8
        refine lv_iload hx hb dX1_run_56 (lv_at hl 4 rfl) ?_
        refine lv_if_eq (tgt := 89) hx hb dX1_run_58 (by decide) (fun c9 => ?_) (fun c9 => ?_)
        · have hf := oo_t hf c9
          cases hf
          exact kk _ _ _ hP hD hS (lv_sub hl [] rfl)
        · have hf := oo_f hf c9
          refine lv_aload_n hx hb dX1_run_61 rfl (lv_at hl 0 rfl) ?_
          refine lv_aload_n hx hb dX1_run_62 rfl (lv_at hl 1 rfl) ?_
          refine lv_iload hx hb dX1_run_63 (lv_at hl 4 rfl) ?_
          refine lv_iload_n hx hb dX1_run_65 rfl (lv_at hl 2 rfl) ?_
          refine lv_iload hx hb dX1_run_66 (lv_at hl 3 rfl) ?_
          obtain ⟨⟨r11, fl_passages_12, fl_astray_13, fl_loops_14, fl_reached_15⟩, h10, hf⟩ := oo_b hf
          try dsimp only at hf
          have F : Fr D A _ (wdFG cI cJ ad fl_foldBits fl_passages_a49 fl_astray_a49 fl_loops_a49 fl_steps_a49 fl_reached_a49 (f_J6_bitCount_0f7a4 (x4 &&& (x3 ^^^ (-1 : Int32)))) gr_nodes gr_links gr_start gr_end gr_linkBetween gr_wayLength gr_wayNext gr_wayLinks) (wdFG cI cJ ad fl_foldBits fl_passages_12 fl_astray_13 fl_loops_14 fl_steps_a49 fl_reached_15 (f_J6_bitCount_0f7a4 (x4 &&& (x3 ^^^ (-1 : Int32)))) gr_nodes gr_links gr_start gr_end gr_linkBetween gr_wayLength gr_wayNext gr_wayLinks) (wdFG cI cJ ad fl_foldBits fl_passages_12 fl_astray_13 fl_loops_14 fl_steps_a49 fl_reached_15 (f_J6_bitCount_0f7a4 (x4 &&& (x3 ^^^ (-1 : Int32)))) gr_nodes gr_links gr_start gr_end gr_linkBetween gr_wayLength gr_wayNext gr_wayLinks) := fr_self hP hD hS hA
          refine kI F hS (rV (q := (RX1, TX1, 7)) (As := [.ref (ad 3), .int x5_a49, .int x3, .int x4]) (rest := []) ⟨hx, hb, hml, hown, hts⟩ hK hN F (c_X1_sendOn l D cI cJ ad _ (fl_foldBits := fl_foldBits) (fl_passages := fl_passages_a49) (fl_astray := fl_astray_a49) (fl_loops := fl_loops_a49) (fl_steps := fl_steps_a49) (fl_reached := fl_reached_a49) (fl_matchingAside := (f_J6_bitCount_0f7a4 (x4 &&& (x3 ^^^ (-1 : Int32))))) (gr_nodes := gr_nodes) (gr_links := gr_links) (gr_start := gr_start) (gr_end := gr_end) (gr_linkBetween := gr_linkBetween) (gr_wayLength := gr_wayLength) (gr_wayNext := gr_wayNext) (gr_wayLinks := gr_wayLinks) x5_a49 x3 x4 (o_res := r11) (o_fl_passages := fl_passages_12) (o_fl_astray := fl_astray_13) (o_fl_loops := fl_loops_14) (o_fl_reached := fl_reached_15) h10) (cwV 4 hts gX1_run_X1_sendOn rfl rfl rfl (by decide +kernel) ⟨Nat.le_of_ble_eq_true rfl, Nat.le_of_ble_eq_true rfl⟩) (ci := 1) rfl rfl rfl hl.1 rfl (Nat.le_of_ble_eq_true rfl) dX1_run_68 ⟨Nat.zero_le _, Nat.zero_le _⟩) (fun H locs hP hD hS => ?_)
          refine lv_istore (lv' := [(5, .int r11), (0, .ref (ad 14)), (1, .ref (ad 3)), (3, .int x3), (4, .int x4), (6, .int x6_a49)]) hx hb dX1_run_71 hl (by decide) rfl (fun ls hl => ?_)
          refine lv_aload_n hx hb dX1_run_73 rfl (lv_at hl 1 rfl) ?_
          refine lv_dup hx hb dX1_run_74 rfl ?_
          refine va_get (ci := 1) (v := .int fl_steps_a49) (C := RX1) (T := TX1) (N := 7) hx hb hts hin_X1 hown hK hP 0 rfl rfl 4 (by decide) fl_21 (fun _ h9 => h9) rfl dX1_run_75 ?_
          refine lv_iconst (v := (1 : Int32)) hx hb dX1_run_78 (by decide) ?_
          refine lv_iadd hx hb dX1_run_79 ?_
          refine va_put (ci := 1) (v := .int (fl_steps_a49 + (1 : Int32))) (ty := .int) (C := RX1) (T := TX1) (N := 7) hx hb hts hin_X1 tyX1 tyX1_ok nmX1 hown hK hP hD hS 0 rfl rfl 4 (by decide) fl_21 (fun _ h9 => h9) rfl (by decide +kernel) rfl rfl (Nat.le_of_ble_eq_true rfl) dX1_run_80 (fun H locs hP hD hS => ?_)
          have hP : va_P D vwCl (wdFG cI cJ ad fl_foldBits fl_passages_12 fl_astray_13 fl_loops_14 (fl_steps_a49 + (1 : Int32)) fl_reached_15 (f_J6_bitCount_0f7a4 (x4 &&& (x3 ^^^ (-1 : Int32)))) gr_nodes gr_links gr_start gr_end gr_linkBetween gr_wayLength gr_wayNext gr_wayLinks) H := hP
          have hD : va_D A (wdFG cI cJ ad fl_foldBits fl_passages_12 fl_astray_13 fl_loops_14 (fl_steps_a49 + (1 : Int32)) fl_reached_15 (f_J6_bitCount_0f7a4 (x4 &&& (x3 ^^^ (-1 : Int32)))) gr_nodes gr_links gr_start gr_end gr_linkBetween gr_wayLength gr_wayNext gr_wayLinks) := hD
          refine lv_iinc (v := (x6_a49 + (1 : Int32))) (lv' := [(6, .int (x6_a49 + (1 : Int32))), (5, .int r11), (0, .ref (ad 14)), (1, .ref (ad 3)), (3, .int x3), (4, .int x4)]) hx hb dX1_run_83 hl (k := 5) rfl rfl (by decide) rfl (fun ls hl => ?_)
          refine lv_goto (tgt := 49) hx hb dX1_run_86 (by decide) ?_
          exact ih fl_passages_12 fl_astray_13 fl_loops_14 (fl_steps_a49 + (1 : Int32)) fl_reached_15 r11 (x6_a49 + (1 : Int32)) _ _ _ _ _ hf kk _ _ _ hP hD hS (lv_sub hl [2, 3, 4, 5, 1, 0] rfl)
  obtain ⟨⟨fl_passages_o2, fl_astray_o3, fl_loops_o4, fl_steps_o5, fl_reached_o6⟩, h17, hf⟩ := oo_b hf
  try dsimp only at hf
  refine lp7  100 (0 : Int32) (0 : Int32) (0 : Int32) (0 : Int32) ((1 : Int32) <<< (x2 &&& 31)) ((1 : Int32) <<< (x2 &&& 31)) (0 : Int32) fl_passages_o2 fl_astray_o3 fl_loops_o4 fl_steps_o5 fl_reached_o6 h17 (fun H locs ls hP hD hS hl => ?_) _ _ _ hP hD hS (lv_sub hl [2, 3, 5, 6, 1, 0] rfl)
  cases hf
  exact hret _ _ _ _ dX1_run_89 hP hD hS
def f_X2_nodeCount (gr_nodes : Int32) : Int32 :=
  gr_nodes
abbrev rm_X2_nodeCount : Room := { frames := 0, cells := 0, slots := 0, locals := 0 }
set_option maxHeartbeats 4000000 in
set_option maxRecDepth 100000 in
theorem c_X2_nodeCount (l : Launch) (D : va_G) (cI cJ : ClassId) (ad : Nat → Nat) (sz : Nat) {gr_nodes gr_links : Int32} {gr_start gr_end gr_linkBetween gr_wayLength gr_wayNext gr_wayLinks : Nat → Int32}  {o_res : Int32} (hf : f_X2_nodeCount gr_nodes = o_res) : CtI l yX2_nodeCount wsX2_nodeCount rm_X2_nodeCount D cI cJ [.ref (ad 3)] (wdG cI cJ ad gr_nodes gr_links gr_start gr_end gr_linkBetween gr_wayLength gr_wayNext gr_wayLinks) sz o_res (wdG cI cJ ad gr_nodes gr_links gr_start gr_end gr_linkBetween gr_wayLength gr_wayNext gr_wayLinks) := by
  refine ctI_of (cc := cX2_nodeCount) (maxL := 1) (by decide) rfl (Nat.le_of_ble_eq_true rfl) ?_
  intro p e s m below meth c Q A hx hb hml hown hts hK hN hA hret ls hl hP hD hS
  obtain ⟨args, hargs⟩ : ∃ a : Array Value, a = [.ref (ad 3)].toArray := ⟨_, rfl⟩
  rw [← hargs] at hts hret ⊢
  have hown : s.vm.findClass RX2 = some m.cls := hown
  have hl : lv_has ls 1 [(0, .ref (ad 3))] := hl
  have hin_X2 : ∀ w ∈ wsX20, w ∈ wsX2_nodeCount := fun _ h => List.mem_cons_of_mem _ (List.mem_append_right _ h)
  have fl_30 : (Cond.fieldLink RX2 30 "FoldedWays$Graph" "nodes" "I").before args s = true := hat hts 1 rfl
  unfold f_X2_nodeCount at hf
  refine lv_aload_n hx hb dX2_nodeCount_0 rfl (lv_at hl 0 rfl) ?_
  refine va_get (ci := 2) (v := .int gr_nodes) (C := RX2) (T := TX2) (N := 8) hx hb hts hin_X2 hown hK hP 0 rfl rfl 0 (by decide) fl_30 (fun _ h9 => h9) rfl dX2_nodeCount_1 ?_
  cases hf
  exact hret _ _ _ _ dX2_nodeCount_4 hP hD hS
