def f_X6_isLink (mo_links : Int32) (x1 : Int32) : Int32 :=
  (f_X6_within x1 (0 : Int32) (mo_links - (1 : Int32)))
abbrev rm_X6_isLink : Room := { frames := 1, cells := 0, slots := 0, locals := 22 }
set_option maxHeartbeats 4000000 in
set_option maxRecDepth 100000 in
theorem c_X6_isLink (l : Launch) (D : va_G) (cI cJ : ClassId) (ad : Nat → Nat) (sz : Nat) {mo_pageLength : Int32} {mo_page : Nat → Int32} {mo_nodes mo_links : Int32} {mo_fromOf mo_toOf : Nat → Int32} {mo_width mo_drawn mo_seed : Int32} {mo_bundleOf : Nat → Int32} {mo_netsRead mo_sent mo_passagesEver mo_astrayEver mo_loopsEver mo_newNodes mo_newPairs mo_due mo_newOne : Int32} {mo_newFrom mo_newTo : Nat → Int32} {mo_marks : Nat → Int64} {mo_drawing : Int64} {mo_leftOf : Nat → Int32} {mo_wayMany : Int32} {mo_wayAt : Nat → Int32} {mo_bitsNow : Int64} {mo_passages mo_astray mo_loops mo_steps mo_reached mo_others : Int32} {mo_h : Int64} (x1 : Int32) {o_res : Int32} (hf : f_X6_isLink mo_links x1 = o_res) : CtZ l yX6_isLink wsX6_isLink rm_X6_isLink D cI cJ [.ref (ad 15), .int x1] (wdM cI cJ ad mo_pageLength mo_page mo_nodes mo_links mo_fromOf mo_toOf mo_width mo_drawn mo_seed mo_bundleOf mo_netsRead mo_sent mo_passagesEver mo_astrayEver mo_loopsEver mo_newNodes mo_newPairs mo_due mo_newOne mo_newFrom mo_newTo mo_marks mo_drawing mo_leftOf mo_wayMany mo_wayAt mo_bitsNow mo_passages mo_astray mo_loops mo_steps mo_reached mo_others mo_h) sz o_res (wdM cI cJ ad mo_pageLength mo_page mo_nodes mo_links mo_fromOf mo_toOf mo_width mo_drawn mo_seed mo_bundleOf mo_netsRead mo_sent mo_passagesEver mo_astrayEver mo_loopsEver mo_newNodes mo_newPairs mo_due mo_newOne mo_newFrom mo_newTo mo_marks mo_drawing mo_leftOf mo_wayMany mo_wayAt mo_bitsNow mo_passages mo_astray mo_loops mo_steps mo_reached mo_others mo_h) := by
  refine ctZ_of (cc := cX6_isLink) (maxL := 2) (by decide) rfl (Nat.le_of_ble_eq_true rfl) ?_
  intro p e s m below meth c Q A hx hb hml hown hts hK hN hA hret ls hl hP hD hS
  obtain ⟨args, hargs⟩ : ∃ a : Array Value, a = [.ref (ad 15), .int x1].toArray := ⟨_, rfl⟩
  rw [← hargs] at hts hret ⊢
  have hown : s.vm.findClass RX6 = some m.cls := hown
  have hl : lv_has ls 2 [(0, .ref (ad 15)), (1, .int x1)] := hl
  have hin_X6 : ∀ w ∈ wsX60, w ∈ wsX6_isLink := fun _ h => List.mem_cons_of_mem _ (List.mem_append_right _ h)
  have fl_85 : (Cond.fieldLink RX6 85 "FoldedWaysModel" "links" "I").before args s = true := hat hts 1 rfl
  unfold f_X6_isLink at hf
  refine lv_iload_n hx hb dX6_isLink_0 rfl (lv_at hl 1 rfl) ?_
  refine lv_iconst (v := (0 : Int32)) hx hb dX6_isLink_1 (by decide) ?_
  refine lv_aload_n hx hb dX6_isLink_2 rfl (lv_at hl 0 rfl) ?_
  refine va_get (ci := 6) (v := .int mo_links) (C := RX6) (T := TX6) (N := 34) hx hb hts hin_X6 hown hK hP 0 rfl rfl 3 (by decide) fl_85 (fun _ h9 => h9) rfl dX6_isLink_3 ?_
  refine lv_iconst (v := (1 : Int32)) hx hb dX6_isLink_6 (by decide) ?_
  refine lv_isub hx hb dX6_isLink_7 ?_
  have F : Fr D A _ [] [] (wdM cI cJ ad mo_pageLength mo_page mo_nodes mo_links mo_fromOf mo_toOf mo_width mo_drawn mo_seed mo_bundleOf mo_netsRead mo_sent mo_passagesEver mo_astrayEver mo_loopsEver mo_newNodes mo_newPairs mo_due mo_newOne mo_newFrom mo_newTo mo_marks mo_drawing mo_leftOf mo_wayMany mo_wayAt mo_bitsNow mo_passages mo_astray mo_loops mo_steps mo_reached mo_others mo_h) := fr_nil hP hD hS hA
  refine kZ F hS (rS (As := [.int x1, .int (0 : Int32), .int (mo_links - (1 : Int32))]) (rest := []) ⟨hx, hb, hml, hown, hts⟩ hK hN F (c_X6_within l D cI cJ ad _  x1 (0 : Int32) (mo_links - (1 : Int32)) (o_res := (f_X6_within x1 (0 : Int32) (mo_links - (1 : Int32)))) rfl) (cwS 3 hts gX6_isLink_X6_within rfl rfl rfl (by decide +kernel) ⟨Nat.le_of_ble_eq_true rfl, Nat.le_of_ble_eq_true rfl⟩) rfl hl.1 rfl (Nat.le_of_ble_eq_true rfl) dX6_isLink_8 ⟨Nat.zero_le _, Nat.zero_le _⟩) (fun H locs hb1 hP hD hS => ?_)
  cases hf
  exact hret _ _ _ _ hb1 dX6_isLink_11 hP hD hS
def f_X6_isVariant (x0 : Int32) : Int32 :=
  (f_X6_within x0 (0 : Int32) (2 : Int32))
abbrev rm_X6_isVariant : Room := { frames := 1, cells := 0, slots := 0, locals := 22 }
set_option maxHeartbeats 4000000 in
set_option maxRecDepth 100000 in
theorem c_X6_isVariant (l : Launch) (D : va_G) (cI cJ : ClassId) (ad : Nat → Nat) (sz : Nat)  (x0 : Int32) {o_res : Int32} (hf : f_X6_isVariant x0 = o_res) : CtZ l yX6_isVariant wsX6_isVariant rm_X6_isVariant D cI cJ [.int x0] [] sz o_res [] := by
  refine ctZ_of (cc := cX6_isVariant) (maxL := 1) (by decide) rfl (Nat.le_of_ble_eq_true rfl) ?_
  intro p e s m below meth c Q A hx hb hml hown hts hK hN hA hret ls hl hP hD hS
  obtain ⟨args, hargs⟩ : ∃ a : Array Value, a = [.int x0].toArray := ⟨_, rfl⟩
  rw [← hargs] at hts hret ⊢
  have hown : s.vm.findClass RX6 = some m.cls := hown
  have hl : lv_has ls 1 [(0, .int x0)] := hl
  unfold f_X6_isVariant at hf
  refine lv_iload_n hx hb dX6_isVariant_0 rfl (lv_at hl 0 rfl) ?_
  refine lv_iconst (v := (0 : Int32)) hx hb dX6_isVariant_1 (by decide) ?_
  refine lv_iconst (v := (2 : Int32)) hx hb dX6_isVariant_2 (by decide) ?_
  have F : Fr D A _ [] [] [] := fr_nil hP hD hS hA
  refine kZ F hS (rS (As := [.int x0, .int (0 : Int32), .int (2 : Int32)]) (rest := []) ⟨hx, hb, hml, hown, hts⟩ hK hN F (c_X6_within l D cI cJ ad _  x0 (0 : Int32) (2 : Int32) (o_res := (f_X6_within x0 (0 : Int32) (2 : Int32))) rfl) (cwS 3 hts gX6_isVariant_X6_within rfl rfl rfl (by decide +kernel) ⟨Nat.le_of_ble_eq_true rfl, Nat.le_of_ble_eq_true rfl⟩) rfl hl.1 rfl (Nat.le_of_ble_eq_true rfl) dX6_isVariant_3 ⟨Nat.zero_le _, Nat.zero_le _⟩) (fun H locs hb1 hP hD hS => ?_)
  cases hf
  exact hret _ _ _ _ hb1 dX6_isVariant_6 hP hD hS
def f_X6_mark (mo_links : Int32) (mo_marks : Nat → Int64) (x1 : Int32) (x2 : Int32) : Option (Int64) :=
  if (f_X6_isLink mo_links x1) = (0 : Int32) then
    some (-1001 : Int64)
  else
    if (f_X6_isVariant x2) = (0 : Int32) then
      some (-1002 : Int64)
    else
      if (((20 : Int32) * x2) + x1) < 0 ∨ 60 ≤ ((((20 : Int32) * x2) + x1)).toNatClampNeg then none else
      some (mo_marks ((((20 : Int32) * x2) + x1)).toNatClampNeg)
abbrev rm_X6_mark : Room := { frames := 2, cells := 0, slots := 0, locals := 43 }
set_option maxHeartbeats 4000000 in
set_option maxRecDepth 100000 in
theorem c_X6_mark (l : Launch) (D : va_G) (cI cJ : ClassId) (ad : Nat → Nat) (sz : Nat) {mo_pageLength : Int32} {mo_page : Nat → Int32} {mo_nodes mo_links : Int32} {mo_fromOf mo_toOf : Nat → Int32} {mo_width mo_drawn mo_seed : Int32} {mo_bundleOf : Nat → Int32} {mo_netsRead mo_sent mo_passagesEver mo_astrayEver mo_loopsEver mo_newNodes mo_newPairs mo_due mo_newOne : Int32} {mo_newFrom mo_newTo : Nat → Int32} {mo_marks : Nat → Int64} {mo_drawing : Int64} {mo_leftOf : Nat → Int32} {mo_wayMany : Int32} {mo_wayAt : Nat → Int32} {mo_bitsNow : Int64} {mo_passages mo_astray mo_loops mo_steps mo_reached mo_others : Int32} {mo_h : Int64} (x1 : Int32) (x2 : Int32) {o_res : Int64} (hf : f_X6_mark mo_links mo_marks x1 x2 = some o_res) : CtL l yX6_mark wsX6_mark rm_X6_mark D cI cJ [.ref (ad 15), .int x1, .int x2] (wdM cI cJ ad mo_pageLength mo_page mo_nodes mo_links mo_fromOf mo_toOf mo_width mo_drawn mo_seed mo_bundleOf mo_netsRead mo_sent mo_passagesEver mo_astrayEver mo_loopsEver mo_newNodes mo_newPairs mo_due mo_newOne mo_newFrom mo_newTo mo_marks mo_drawing mo_leftOf mo_wayMany mo_wayAt mo_bitsNow mo_passages mo_astray mo_loops mo_steps mo_reached mo_others mo_h) sz o_res (wdM cI cJ ad mo_pageLength mo_page mo_nodes mo_links mo_fromOf mo_toOf mo_width mo_drawn mo_seed mo_bundleOf mo_netsRead mo_sent mo_passagesEver mo_astrayEver mo_loopsEver mo_newNodes mo_newPairs mo_due mo_newOne mo_newFrom mo_newTo mo_marks mo_drawing mo_leftOf mo_wayMany mo_wayAt mo_bitsNow mo_passages mo_astray mo_loops mo_steps mo_reached mo_others mo_h) := by
  refine ctL_of (cc := cX6_mark) (maxL := 3) (by decide) rfl (Nat.le_of_ble_eq_true rfl) ?_
  intro p e s m below meth c Q A hx hb hml hown hts hK hN hA hret ls hl hP hD hS
  obtain ⟨args, hargs⟩ : ∃ a : Array Value, a = [.ref (ad 15), .int x1, .int x2].toArray := ⟨_, rfl⟩
  rw [← hargs] at hts hret ⊢
  have hown : s.vm.findClass RX6 = some m.cls := hown
  have hl : lv_has ls 3 [(0, .ref (ad 15)), (1, .int x1), (2, .int x2)] := hl
  have hin_X6 : ∀ w ∈ wsX60, w ∈ wsX6_mark := fun _ h => List.mem_cons_of_mem _ (List.mem_append_right _ h)
  have fl_38 : (Cond.fieldLink RX6 38 "FoldedWaysModel" "marks" "[J").before args s = true := hat hts 2 rfl
  unfold f_X6_mark at hf
  refine lv_aload_n hx hb dX6_mark_0 rfl (lv_at hl 0 rfl) ?_
  refine lv_iload_n hx hb dX6_mark_1 rfl (lv_at hl 1 rfl) ?_
  have F : Fr D A _ (wdM cI cJ ad mo_pageLength mo_page mo_nodes mo_links mo_fromOf mo_toOf mo_width mo_drawn mo_seed mo_bundleOf mo_netsRead mo_sent mo_passagesEver mo_astrayEver mo_loopsEver mo_newNodes mo_newPairs mo_due mo_newOne mo_newFrom mo_newTo mo_marks mo_drawing mo_leftOf mo_wayMany mo_wayAt mo_bitsNow mo_passages mo_astray mo_loops mo_steps mo_reached mo_others mo_h) (wdM cI cJ ad mo_pageLength mo_page mo_nodes mo_links mo_fromOf mo_toOf mo_width mo_drawn mo_seed mo_bundleOf mo_netsRead mo_sent mo_passagesEver mo_astrayEver mo_loopsEver mo_newNodes mo_newPairs mo_due mo_newOne mo_newFrom mo_newTo mo_marks mo_drawing mo_leftOf mo_wayMany mo_wayAt mo_bitsNow mo_passages mo_astray mo_loops mo_steps mo_reached mo_others mo_h) (wdM cI cJ ad mo_pageLength mo_page mo_nodes mo_links mo_fromOf mo_toOf mo_width mo_drawn mo_seed mo_bundleOf mo_netsRead mo_sent mo_passagesEver mo_astrayEver mo_loopsEver mo_newNodes mo_newPairs mo_due mo_newOne mo_newFrom mo_newTo mo_marks mo_drawing mo_leftOf mo_wayMany mo_wayAt mo_bitsNow mo_passages mo_astray mo_loops mo_steps mo_reached mo_others mo_h) := fr_self hP hD hS hA
  refine kZ F hS (rV (q := (RX6, TX6, 34)) (As := [.int x1]) (rest := []) ⟨hx, hb, hml, hown, hts⟩ hK hN F (c_X6_isLink l D cI cJ ad _ (mo_pageLength := mo_pageLength) (mo_page := mo_page) (mo_nodes := mo_nodes) (mo_links := mo_links) (mo_fromOf := mo_fromOf) (mo_toOf := mo_toOf) (mo_width := mo_width) (mo_drawn := mo_drawn) (mo_seed := mo_seed) (mo_bundleOf := mo_bundleOf) (mo_netsRead := mo_netsRead) (mo_sent := mo_sent) (mo_passagesEver := mo_passagesEver) (mo_astrayEver := mo_astrayEver) (mo_loopsEver := mo_loopsEver) (mo_newNodes := mo_newNodes) (mo_newPairs := mo_newPairs) (mo_due := mo_due) (mo_newOne := mo_newOne) (mo_newFrom := mo_newFrom) (mo_newTo := mo_newTo) (mo_marks := mo_marks) (mo_drawing := mo_drawing) (mo_leftOf := mo_leftOf) (mo_wayMany := mo_wayMany) (mo_wayAt := mo_wayAt) (mo_bitsNow := mo_bitsNow) (mo_passages := mo_passages) (mo_astray := mo_astray) (mo_loops := mo_loops) (mo_steps := mo_steps) (mo_reached := mo_reached) (mo_others := mo_others) (mo_h := mo_h) x1 (o_res := (f_X6_isLink mo_links x1)) rfl) (cwV 1 hts gX6_mark_X6_isLink rfl rfl rfl (by decide +kernel) ⟨Nat.le_of_ble_eq_true rfl, Nat.le_of_ble_eq_true rfl⟩) (ci := 6) rfl rfl rfl hl.1 rfl (Nat.le_of_ble_eq_true rfl) dX6_mark_2 ⟨Nat.zero_le _, Nat.zero_le _⟩) (fun H locs hb1 hP hD hS => ?_)
  refine lv_if_ne (tgt := 12) hx hb dX6_mark_5 (by decide) (fun c2 => ?_) (fun c2 => ?_)
  · have hf := oo_f hf c2
    refine lv_iload_n hx hb dX6_mark_12 rfl (lv_at hl 2 rfl) ?_
    have F : Fr D A _ [] [] (wdM cI cJ ad mo_pageLength mo_page mo_nodes mo_links mo_fromOf mo_toOf mo_width mo_drawn mo_seed mo_bundleOf mo_netsRead mo_sent mo_passagesEver mo_astrayEver mo_loopsEver mo_newNodes mo_newPairs mo_due mo_newOne mo_newFrom mo_newTo mo_marks mo_drawing mo_leftOf mo_wayMany mo_wayAt mo_bitsNow mo_passages mo_astray mo_loops mo_steps mo_reached mo_others mo_h) := fr_nil hP hD hS hA
    refine kZ F hS (rS (As := [.int x2]) (rest := []) ⟨hx, hb, hml, hown, hts⟩ hK hN F (c_X6_isVariant l D cI cJ ad _  x2 (o_res := (f_X6_isVariant x2)) rfl) (cwS 1 hts gX6_mark_X6_isVariant rfl rfl rfl (by decide +kernel) ⟨Nat.le_of_ble_eq_true rfl, Nat.le_of_ble_eq_true rfl⟩) rfl hl.1 rfl (Nat.le_of_ble_eq_true rfl) dX6_mark_13 ⟨Nat.zero_le _, Nat.zero_le _⟩) (fun H locs hb3 hP hD hS => ?_)
    refine lv_if_eq (tgt := 33) hx hb dX6_mark_16 (by decide) (fun c4 => ?_) (fun c4 => ?_)
    · have hf := oo_t hf c4
      refine lv_ldc2 (v := (-1002 : Int64)) hx hb hown (hat hts 3 rfl) dX6_mark_33 ?_
      cases hf
      exact hret _ _ _ _ dX6_mark_36 hP hD hS
    · have hf := oo_f hf c4
      refine lv_aload_n hx hb dX6_mark_19 rfl (lv_at hl 0 rfl) ?_
      refine va_get (ci := 6) (v := .ref (ad 22)) (C := RX6) (T := TX6) (N := 34) hx hb hts hin_X6 hown hK hP 0 rfl rfl 21 (by decide) fl_38 (fun _ h9 => h9) rfl dX6_mark_20 ?_
      refine lv_bipush (v := (20 : Int32)) hx hb dX6_mark_23 (by decide) ?_
      refine lv_iload_n hx hb dX6_mark_25 rfl (lv_at hl 2 rfl) ?_
      refine lv_imul hx hb dX6_mark_26 ?_
      refine lv_iload_n hx hb dX6_mark_27 rfl (lv_at hl 1 rfl) ?_
      refine lv_iadd hx hb dX6_mark_28 ?_
      obtain ⟨g5, hf⟩ := oo_g hf
      refine va_lald hx hb hK hP 7 1 rfl rfl g5 dX6_mark_29 ?_
      refine lv_goto (tgt := 36) hx hb dX6_mark_30 (by decide) ?_
      cases hf
      exact hret _ _ _ _ dX6_mark_36 hP hD hS
  · have hf := oo_t hf c2
    refine lv_ldc2 (v := (-1001 : Int64)) hx hb hown (hat hts 1 rfl) dX6_mark_8 ?_
    cases hf
    exact hret _ _ _ _ dX6_mark_11 hP hD hS
def f_X6_bundlesOf_L4 (mo_bundleOf : Nat → Int32) (x1 : Int32) : Nat → Int32 → Int32 → Option (Int32)
  | 0, _, _ => none
  | n + 1, x2_a4, x3_a4 =>
      if (4 : Int32) ≤ x3_a4 then
        some x2_a4
      else
        if x3_a4 < 0 ∨ 4 ≤ (x3_a4).toNatClampNeg then none else
        f_X6_bundlesOf_L4 mo_bundleOf x1 n (x2_a4 ||| (if (f_X6_has (mo_bundleOf (x3_a4).toNatClampNeg) x1) = (0 : Int32) then (0 : Int32) else ((1 : Int32) <<< (x3_a4 &&& 31)))) (x3_a4 + (1 : Int32))
theorem f_X6_bundlesOf_L4_s (mo_bundleOf : Nat → Int32) (x1 : Int32) (n : Nat) (x2_a4 : Int32) (x3_a4 : Int32) : f_X6_bundlesOf_L4 mo_bundleOf x1 (n + 1) x2_a4 x3_a4 =
      (if (4 : Int32) ≤ x3_a4 then
        some x2_a4
      else
        if x3_a4 < 0 ∨ 4 ≤ (x3_a4).toNatClampNeg then none else
        f_X6_bundlesOf_L4 mo_bundleOf x1 n (x2_a4 ||| (if (f_X6_has (mo_bundleOf (x3_a4).toNatClampNeg) x1) = (0 : Int32) then (0 : Int32) else ((1 : Int32) <<< (x3_a4 &&& 31)))) (x3_a4 + (1 : Int32))) := rfl
def f_X6_bundlesOf (mo_bundleOf : Nat → Int32) (x1 : Int32) : Option (Int32) :=
  Option.bind (f_X6_bundlesOf_L4 mo_bundleOf x1 100 (0 : Int32) (0 : Int32)) fun x2_o1 =>
  some x2_o1
abbrev rm_X6_bundlesOf : Room := { frames := 1, cells := 0, slots := 0, locals := 21 }
set_option maxHeartbeats 4000000 in
set_option maxRecDepth 100000 in
theorem c_X6_bundlesOf (l : Launch) (D : va_G) (cI cJ : ClassId) (ad : Nat → Nat) (sz : Nat) {mo_pageLength : Int32} {mo_page : Nat → Int32} {mo_nodes mo_links : Int32} {mo_fromOf mo_toOf : Nat → Int32} {mo_width mo_drawn mo_seed : Int32} {mo_bundleOf : Nat → Int32} {mo_netsRead mo_sent mo_passagesEver mo_astrayEver mo_loopsEver mo_newNodes mo_newPairs mo_due mo_newOne : Int32} {mo_newFrom mo_newTo : Nat → Int32} {mo_marks : Nat → Int64} {mo_drawing : Int64} {mo_leftOf : Nat → Int32} {mo_wayMany : Int32} {mo_wayAt : Nat → Int32} {mo_bitsNow : Int64} {mo_passages mo_astray mo_loops mo_steps mo_reached mo_others : Int32} {mo_h : Int64} (x1 : Int32) {o_res : Int32} (hf : f_X6_bundlesOf mo_bundleOf x1 = some o_res) : CtI l yX6_bundlesOf wsX6_bundlesOf rm_X6_bundlesOf D cI cJ [.ref (ad 15), .int x1] (wdM cI cJ ad mo_pageLength mo_page mo_nodes mo_links mo_fromOf mo_toOf mo_width mo_drawn mo_seed mo_bundleOf mo_netsRead mo_sent mo_passagesEver mo_astrayEver mo_loopsEver mo_newNodes mo_newPairs mo_due mo_newOne mo_newFrom mo_newTo mo_marks mo_drawing mo_leftOf mo_wayMany mo_wayAt mo_bitsNow mo_passages mo_astray mo_loops mo_steps mo_reached mo_others mo_h) sz o_res (wdM cI cJ ad mo_pageLength mo_page mo_nodes mo_links mo_fromOf mo_toOf mo_width mo_drawn mo_seed mo_bundleOf mo_netsRead mo_sent mo_passagesEver mo_astrayEver mo_loopsEver mo_newNodes mo_newPairs mo_due mo_newOne mo_newFrom mo_newTo mo_marks mo_drawing mo_leftOf mo_wayMany mo_wayAt mo_bitsNow mo_passages mo_astray mo_loops mo_steps mo_reached mo_others mo_h) := by
  refine ctI_of (cc := cX6_bundlesOf) (maxL := 4) (by decide) rfl (Nat.le_of_ble_eq_true rfl) ?_
  intro p e s m below meth c Q A hx hb hml hown hts hK hN hA hret ls hl hP hD hS
  obtain ⟨args, hargs⟩ : ∃ a : Array Value, a = [.ref (ad 15), .int x1].toArray := ⟨_, rfl⟩
  rw [← hargs] at hts hret ⊢
  have hown : s.vm.findClass RX6 = some m.cls := hown
  have hl : lv_has ls 4 [(0, .ref (ad 15)), (1, .int x1)] := hl
  have hin_X6 : ∀ w ∈ wsX60, w ∈ wsX6_bundlesOf := fun _ h => List.mem_cons_of_mem _ (List.mem_append_right _ h)
  have fl_29 : (Cond.fieldLink RX6 29 "FoldedWaysModel" "bundleOf" "[I").before args s = true := hat hts 1 rfl
  unfold f_X6_bundlesOf at hf
  refine lv_iconst (v := (0 : Int32)) hx hb dX6_bundlesOf_0 (by decide) ?_
  refine lv_istore_n (lv' := [(2, .int (0 : Int32)), (0, .ref (ad 15)), (1, .int x1)]) hx hb dX6_bundlesOf_1 rfl hl (by decide) rfl (fun ls hl => ?_)
  refine lv_iconst (v := (0 : Int32)) hx hb dX6_bundlesOf_2 (by decide) ?_
  refine lv_istore_n (lv' := [(3, .int (0 : Int32)), (2, .int (0 : Int32)), (0, .ref (ad 15)), (1, .int x1)]) hx hb dX6_bundlesOf_3 rfl hl (by decide) rfl (fun ls hl => ?_)
  have lp2 : ∀ (n : Nat) (x2_a4 : Int32) (x3_a4 : Int32) (x2_o1 : Int32), f_X6_bundlesOf_L4 mo_bundleOf x1 n x2_a4 x3_a4 = some x2_o1 → (∀ (H : Heap) (locs : List Loc) (ls : Array Slot), va_P D vwCl (wdM cI cJ ad mo_pageLength mo_page mo_nodes mo_links mo_fromOf mo_toOf mo_width mo_drawn mo_seed mo_bundleOf mo_netsRead mo_sent mo_passagesEver mo_astrayEver mo_loopsEver mo_newNodes mo_newPairs mo_due mo_newOne mo_newFrom mo_newTo mo_marks mo_drawing mo_leftOf mo_wayMany mo_wayAt mo_bitsNow mo_passages mo_astray mo_loops mo_steps mo_reached mo_others mo_h) H → va_D A (wdM cI cJ ad mo_pageLength mo_page mo_nodes mo_links mo_fromOf mo_toOf mo_width mo_drawn mo_seed mo_bundleOf mo_netsRead mo_sent mo_passagesEver mo_astrayEver mo_loopsEver mo_newNodes mo_newPairs mo_due mo_newOne mo_newFrom mo_newTo mo_marks mo_drawing mo_leftOf mo_wayMany mo_wayAt mo_bitsNow mo_passages mo_astray mo_loops mo_steps mo_reached mo_others mo_h) → va_S A s.heap H locs → lv_has ls 4 [(2, .int x2_o1)] → W p l e rm_X6_bundlesOf s m args below meth c H locs 0 0 Q (F0 m 38 ls [])) → ∀ (H : Heap) (locs : List Loc) (ls : Array Slot), va_P D vwCl (wdM cI cJ ad mo_pageLength mo_page mo_nodes mo_links mo_fromOf mo_toOf mo_width mo_drawn mo_seed mo_bundleOf mo_netsRead mo_sent mo_passagesEver mo_astrayEver mo_loopsEver mo_newNodes mo_newPairs mo_due mo_newOne mo_newFrom mo_newTo mo_marks mo_drawing mo_leftOf mo_wayMany mo_wayAt mo_bitsNow mo_passages mo_astray mo_loops mo_steps mo_reached mo_others mo_h) H → va_D A (wdM cI cJ ad mo_pageLength mo_page mo_nodes mo_links mo_fromOf mo_toOf mo_width mo_drawn mo_seed mo_bundleOf mo_netsRead mo_sent mo_passagesEver mo_astrayEver mo_loopsEver mo_newNodes mo_newPairs mo_due mo_newOne mo_newFrom mo_newTo mo_marks mo_drawing mo_leftOf mo_wayMany mo_wayAt mo_bitsNow mo_passages mo_astray mo_loops mo_steps mo_reached mo_others mo_h) → va_S A s.heap H locs → lv_has ls 4 [(0, .ref (ad 15)), (1, .int x1), (2, .int x2_a4), (3, .int x3_a4)] → W p l e rm_X6_bundlesOf s m args below meth c H locs 0 0 Q (F0 m 4 ls []) := by
    intro n
    induction n with
    | zero =>
      intro x2_a4 x3_a4 x2_o1 h0
      exact oo_n h0
    | succ n ih =>
      intro x2_a4 x3_a4 x2_o1 hf kk H locs ls hP hD hS hl
      rw [f_X6_bundlesOf_L4_s] at hf
      refine lv_iload_n hx hb dX6_bundlesOf_4 rfl (lv_at hl 3 rfl) ?_
      refine lv_iconst (v := (4 : Int32)) hx hb dX6_bundlesOf_5 (by decide) ?_
      refine lv_icmp_ge (tgt := 38) hx hb dX6_bundlesOf_6 (by decide) (fun c3 => ?_) (fun c3 => ?_)
      · have hf := oo_t hf c3
        cases hf
        exact kk _ _ _ hP hD hS (lv_sub hl [2] rfl)
      · have hf := oo_f hf c3
        refine lv_iload_n hx hb dX6_bundlesOf_9 rfl (lv_at hl 2 rfl) ?_
        refine lv_aload_n hx hb dX6_bundlesOf_10 rfl (lv_at hl 0 rfl) ?_
        refine va_get (ci := 6) (v := .ref (ad 19)) (C := RX6) (T := TX6) (N := 34) hx hb hts hin_X6 hown hK hP 0 rfl rfl 9 (by decide) fl_29 (fun _ h9 => h9) rfl dX6_bundlesOf_11 ?_
        refine lv_iload_n hx hb dX6_bundlesOf_14 rfl (lv_at hl 3 rfl) ?_
        obtain ⟨g4, hf⟩ := oo_g hf
        refine va_iald hx hb hK hP 4 0 rfl rfl g4 dX6_bundlesOf_15 ?_
        refine lv_iload_n hx hb dX6_bundlesOf_16 rfl (lv_at hl 1 rfl) ?_
        have F : Fr D A _ [] [] (wdM cI cJ ad mo_pageLength mo_page mo_nodes mo_links mo_fromOf mo_toOf mo_width mo_drawn mo_seed mo_bundleOf mo_netsRead mo_sent mo_passagesEver mo_astrayEver mo_loopsEver mo_newNodes mo_newPairs mo_due mo_newOne mo_newFrom mo_newTo mo_marks mo_drawing mo_leftOf mo_wayMany mo_wayAt mo_bitsNow mo_passages mo_astray mo_loops mo_steps mo_reached mo_others mo_h) := fr_nil hP hD hS hA
        refine kZ F hS (rS (As := [.int (mo_bundleOf (x3_a4).toNatClampNeg), .int x1]) (rest := [.int x2_a4]) ⟨hx, hb, hml, hown, hts⟩ hK hN F (c_X6_has l D cI cJ ad _  (mo_bundleOf (x3_a4).toNatClampNeg) x1 (o_res := (f_X6_has (mo_bundleOf (x3_a4).toNatClampNeg) x1)) rfl) (cwS 2 hts gX6_bundlesOf_X6_has rfl rfl rfl (by decide +kernel) ⟨Nat.le_of_ble_eq_true rfl, Nat.le_of_ble_eq_true rfl⟩) rfl hl.1 rfl (Nat.le_of_ble_eq_true rfl) dX6_bundlesOf_17 ⟨Nat.zero_le _, Nat.zero_le _⟩) (fun H locs hb5 hP hD hS => ?_)
        have kj7 : ∀ (k_6 : Int32), k_6 = (if (f_X6_has (mo_bundleOf (x3_a4).toNatClampNeg) x1) = (0 : Int32) then (0 : Int32) else ((1 : Int32) <<< (x3_a4 &&& 31))) → ∀ (H : Heap) (locs : List Loc) (ls : Array Slot), va_P D vwCl (wdM cI cJ ad mo_pageLength mo_page mo_nodes mo_links mo_fromOf mo_toOf mo_width mo_drawn mo_seed mo_bundleOf mo_netsRead mo_sent mo_passagesEver mo_astrayEver mo_loopsEver mo_newNodes mo_newPairs mo_due mo_newOne mo_newFrom mo_newTo mo_marks mo_drawing mo_leftOf mo_wayMany mo_wayAt mo_bitsNow mo_passages mo_astray mo_loops mo_steps mo_reached mo_others mo_h) H → va_D A (wdM cI cJ ad mo_pageLength mo_page mo_nodes mo_links mo_fromOf mo_toOf mo_width mo_drawn mo_seed mo_bundleOf mo_netsRead mo_sent mo_passagesEver mo_astrayEver mo_loopsEver mo_newNodes mo_newPairs mo_due mo_newOne mo_newFrom mo_newTo mo_marks mo_drawing mo_leftOf mo_wayMany mo_wayAt mo_bitsNow mo_passages mo_astray mo_loops mo_steps mo_reached mo_others mo_h) → va_S A s.heap H locs → lv_has ls 4 [(0, .ref (ad 15)), (1, .int x1), (3, .int x3_a4)] → W p l e rm_X6_bundlesOf s m args below meth c H locs 0 0 Q (F0 m 30 ls [.int k_6, .int x2_a4]) := by
          intro k_6 ek_6
          subst ek_6
          intro H locs ls hP hD hS hl
          refine lv_ior hx hb dX6_bundlesOf_30 ?_
          refine lv_istore_n (lv' := [(2, .int (x2_a4 ||| (if (f_X6_has (mo_bundleOf (x3_a4).toNatClampNeg) x1) = (0 : Int32) then (0 : Int32) else ((1 : Int32) <<< (x3_a4 &&& 31))))), (0, .ref (ad 15)), (1, .int x1), (3, .int x3_a4)]) hx hb dX6_bundlesOf_31 rfl hl (by decide) rfl (fun ls hl => ?_)
          refine lv_iinc (v := (x3_a4 + (1 : Int32))) (lv' := [(3, .int (x3_a4 + (1 : Int32))), (2, .int (x2_a4 ||| (if (f_X6_has (mo_bundleOf (x3_a4).toNatClampNeg) x1) = (0 : Int32) then (0 : Int32) else ((1 : Int32) <<< (x3_a4 &&& 31))))), (0, .ref (ad 15)), (1, .int x1)]) hx hb dX6_bundlesOf_32 hl (k := 3) rfl rfl (by decide) rfl (fun ls hl => ?_)
          refine lv_goto (tgt := 4) hx hb dX6_bundlesOf_35 (by decide) ?_
          exact ih (x2_a4 ||| (if (f_X6_has (mo_bundleOf (x3_a4).toNatClampNeg) x1) = (0 : Int32) then (0 : Int32) else ((1 : Int32) <<< (x3_a4 &&& 31)))) (x3_a4 + (1 : Int32)) _ hf kk _ _ _ hP hD hS (lv_sub hl [2, 3, 1, 0] rfl)
        refine lv_if_eq (tgt := 29) hx hb dX6_bundlesOf_20 (by decide) (fun c8 => ?_) (fun c8 => ?_)
        · refine lv_iconst (v := (0 : Int32)) hx hb dX6_bundlesOf_29 (by decide) ?_
          exact kj7 (0 : Int32) (if_pos c8).symm _ _ _ hP hD hS (lv_sub hl [0, 1, 3] rfl)
        · refine lv_iconst (v := (1 : Int32)) hx hb dX6_bundlesOf_23 (by decide) ?_
          refine lv_iload_n hx hb dX6_bundlesOf_24 rfl (lv_at hl 3 rfl) ?_
          refine lv_ishl hx hb dX6_bundlesOf_25 ?_
          refine lv_goto (tgt := 30) hx hb dX6_bundlesOf_26 (by decide) ?_
          exact kj7 ((1 : Int32) <<< (x3_a4 &&& 31)) (if_neg c8).symm _ _ _ hP hD hS (lv_sub hl [0, 1, 3] rfl)
  obtain ⟨x2_o1, h9, hf⟩ := oo_b hf
  try dsimp only at hf
  refine lp2  100 (0 : Int32) (0 : Int32) x2_o1 h9 (fun H locs ls hP hD hS hl => ?_) _ _ _ hP hD hS (lv_sub hl [2, 3, 1, 0] rfl)
  refine lv_iload_n hx hb dX6_bundlesOf_38 rfl (lv_at hl 0 rfl) ?_
  cases hf
  exact hret _ _ _ _ dX6_bundlesOf_39 hP hD hS
def f_X6_linkNow (mo_fromOf : Nat → Int32) (mo_toOf : Nat → Int32) (mo_bundleOf : Nat → Int32) (x1 : Int32) (x2 : Int32) : Option (Int32) :=
  if x2 = (0 : Int32) then
    if x1 < 0 ∨ 16 ≤ (x1).toNatClampNeg then none else
    some (mo_fromOf (x1).toNatClampNeg)
  else
    if x2 = (1 : Int32) then
      if x1 < 0 ∨ 16 ≤ (x1).toNatClampNeg then none else
      some (mo_toOf (x1).toNatClampNeg)
    else
      Option.bind (f_X6_bundlesOf mo_bundleOf x1) fun r4 =>
      some r4
abbrev rm_X6_linkNow : Room := { frames := 2, cells := 0, slots := 0, locals := 44 }
set_option maxHeartbeats 4000000 in
set_option maxRecDepth 100000 in
theorem c_X6_linkNow (l : Launch) (D : va_G) (cI cJ : ClassId) (ad : Nat → Nat) (sz : Nat) {mo_pageLength : Int32} {mo_page : Nat → Int32} {mo_nodes mo_links : Int32} {mo_fromOf mo_toOf : Nat → Int32} {mo_width mo_drawn mo_seed : Int32} {mo_bundleOf : Nat → Int32} {mo_netsRead mo_sent mo_passagesEver mo_astrayEver mo_loopsEver mo_newNodes mo_newPairs mo_due mo_newOne : Int32} {mo_newFrom mo_newTo : Nat → Int32} {mo_marks : Nat → Int64} {mo_drawing : Int64} {mo_leftOf : Nat → Int32} {mo_wayMany : Int32} {mo_wayAt : Nat → Int32} {mo_bitsNow : Int64} {mo_passages mo_astray mo_loops mo_steps mo_reached mo_others : Int32} {mo_h : Int64} (x1 : Int32) (x2 : Int32) {o_res : Int32} (hf : f_X6_linkNow mo_fromOf mo_toOf mo_bundleOf x1 x2 = some o_res) : CtI l yX6_linkNow wsX6_linkNow rm_X6_linkNow D cI cJ [.ref (ad 15), .int x1, .int x2] (wdM cI cJ ad mo_pageLength mo_page mo_nodes mo_links mo_fromOf mo_toOf mo_width mo_drawn mo_seed mo_bundleOf mo_netsRead mo_sent mo_passagesEver mo_astrayEver mo_loopsEver mo_newNodes mo_newPairs mo_due mo_newOne mo_newFrom mo_newTo mo_marks mo_drawing mo_leftOf mo_wayMany mo_wayAt mo_bitsNow mo_passages mo_astray mo_loops mo_steps mo_reached mo_others mo_h) sz o_res (wdM cI cJ ad mo_pageLength mo_page mo_nodes mo_links mo_fromOf mo_toOf mo_width mo_drawn mo_seed mo_bundleOf mo_netsRead mo_sent mo_passagesEver mo_astrayEver mo_loopsEver mo_newNodes mo_newPairs mo_due mo_newOne mo_newFrom mo_newTo mo_marks mo_drawing mo_leftOf mo_wayMany mo_wayAt mo_bitsNow mo_passages mo_astray mo_loops mo_steps mo_reached mo_others mo_h) := by
  refine ctI_of (cc := cX6_linkNow) (maxL := 3) (by decide) rfl (Nat.le_of_ble_eq_true rfl) ?_
  intro p e s m below meth c Q A hx hb hml hown hts hK hN hA hret ls hl hP hD hS
  obtain ⟨args, hargs⟩ : ∃ a : Array Value, a = [.ref (ad 15), .int x1, .int x2].toArray := ⟨_, rfl⟩
  rw [← hargs] at hts hret ⊢
  have hown : s.vm.findClass RX6 = some m.cls := hown
  have hl : lv_has ls 3 [(0, .ref (ad 15)), (1, .int x1), (2, .int x2)] := hl
  have hin_X6 : ∀ w ∈ wsX60, w ∈ wsX6_linkNow := fun _ h => List.mem_cons_of_mem _ (List.mem_append_right _ h)
  have fl_13 : (Cond.fieldLink RX6 13 "FoldedWaysModel" "fromOf" "[I").before args s = true := hat hts 1 rfl
  have fl_16 : (Cond.fieldLink RX6 16 "FoldedWaysModel" "toOf" "[I").before args s = true := hat hts 2 rfl
  unfold f_X6_linkNow at hf
  refine lv_iload_n hx hb dX6_linkNow_0 rfl (lv_at hl 2 rfl) ?_
  refine lv_if_ne (tgt := 13) hx hb dX6_linkNow_1 (by decide) (fun c1 => ?_) (fun c1 => ?_)
  · have hf := oo_f hf c1
    refine lv_iload_n hx hb dX6_linkNow_13 rfl (lv_at hl 2 rfl) ?_
    refine lv_iconst (v := (1 : Int32)) hx hb dX6_linkNow_14 (by decide) ?_
    refine lv_icmp_ne (tgt := 27) hx hb dX6_linkNow_15 (by decide) (fun c2 => ?_) (fun c2 => ?_)
    · have hf := oo_f hf c2
      refine lv_aload_n hx hb dX6_linkNow_27 rfl (lv_at hl 0 rfl) ?_
      refine lv_iload_n hx hb dX6_linkNow_28 rfl (lv_at hl 1 rfl) ?_
      obtain ⟨r4, h3, hf⟩ := oo_b hf
      try dsimp only at hf
      have F : Fr D A _ (wdM cI cJ ad mo_pageLength mo_page mo_nodes mo_links mo_fromOf mo_toOf mo_width mo_drawn mo_seed mo_bundleOf mo_netsRead mo_sent mo_passagesEver mo_astrayEver mo_loopsEver mo_newNodes mo_newPairs mo_due mo_newOne mo_newFrom mo_newTo mo_marks mo_drawing mo_leftOf mo_wayMany mo_wayAt mo_bitsNow mo_passages mo_astray mo_loops mo_steps mo_reached mo_others mo_h) (wdM cI cJ ad mo_pageLength mo_page mo_nodes mo_links mo_fromOf mo_toOf mo_width mo_drawn mo_seed mo_bundleOf mo_netsRead mo_sent mo_passagesEver mo_astrayEver mo_loopsEver mo_newNodes mo_newPairs mo_due mo_newOne mo_newFrom mo_newTo mo_marks mo_drawing mo_leftOf mo_wayMany mo_wayAt mo_bitsNow mo_passages mo_astray mo_loops mo_steps mo_reached mo_others mo_h) (wdM cI cJ ad mo_pageLength mo_page mo_nodes mo_links mo_fromOf mo_toOf mo_width mo_drawn mo_seed mo_bundleOf mo_netsRead mo_sent mo_passagesEver mo_astrayEver mo_loopsEver mo_newNodes mo_newPairs mo_due mo_newOne mo_newFrom mo_newTo mo_marks mo_drawing mo_leftOf mo_wayMany mo_wayAt mo_bitsNow mo_passages mo_astray mo_loops mo_steps mo_reached mo_others mo_h) := fr_self hP hD hS hA
      refine kI F hS (rV (q := (RX6, TX6, 34)) (As := [.int x1]) (rest := []) ⟨hx, hb, hml, hown, hts⟩ hK hN F (c_X6_bundlesOf l D cI cJ ad _ (mo_pageLength := mo_pageLength) (mo_page := mo_page) (mo_nodes := mo_nodes) (mo_links := mo_links) (mo_fromOf := mo_fromOf) (mo_toOf := mo_toOf) (mo_width := mo_width) (mo_drawn := mo_drawn) (mo_seed := mo_seed) (mo_bundleOf := mo_bundleOf) (mo_netsRead := mo_netsRead) (mo_sent := mo_sent) (mo_passagesEver := mo_passagesEver) (mo_astrayEver := mo_astrayEver) (mo_loopsEver := mo_loopsEver) (mo_newNodes := mo_newNodes) (mo_newPairs := mo_newPairs) (mo_due := mo_due) (mo_newOne := mo_newOne) (mo_newFrom := mo_newFrom) (mo_newTo := mo_newTo) (mo_marks := mo_marks) (mo_drawing := mo_drawing) (mo_leftOf := mo_leftOf) (mo_wayMany := mo_wayMany) (mo_wayAt := mo_wayAt) (mo_bitsNow := mo_bitsNow) (mo_passages := mo_passages) (mo_astray := mo_astray) (mo_loops := mo_loops) (mo_steps := mo_steps) (mo_reached := mo_reached) (mo_others := mo_others) (mo_h := mo_h) x1 (o_res := r4) h3) (cwV 1 hts gX6_linkNow_X6_bundlesOf rfl rfl rfl (by decide +kernel) ⟨Nat.le_of_ble_eq_true rfl, Nat.le_of_ble_eq_true rfl⟩) (ci := 6) rfl rfl rfl hl.1 rfl (Nat.le_of_ble_eq_true rfl) dX6_linkNow_29 ⟨Nat.zero_le _, Nat.zero_le _⟩) (fun H locs hP hD hS => ?_)
      cases hf
      exact hret _ _ _ _ dX6_linkNow_32 hP hD hS
    · have hf := oo_t hf c2
      refine lv_aload_n hx hb dX6_linkNow_18 rfl (lv_at hl 0 rfl) ?_
      refine va_get (ci := 6) (v := .ref (ad 18)) (C := RX6) (T := TX6) (N := 34) hx hb hts hin_X6 hown hK hP 0 rfl rfl 5 (by decide) fl_16 (fun _ h9 => h9) rfl dX6_linkNow_19 ?_
      refine lv_iload_n hx hb dX6_linkNow_22 rfl (lv_at hl 1 rfl) ?_
      obtain ⟨g6, hf⟩ := oo_g hf
      refine va_iald hx hb hK hP 3 0 rfl rfl g6 dX6_linkNow_23 ?_
      refine lv_goto (tgt := 32) hx hb dX6_linkNow_24 (by decide) ?_
      cases hf
      exact hret _ _ _ _ dX6_linkNow_32 hP hD hS
  · have hf := oo_t hf c1
    refine lv_aload_n hx hb dX6_linkNow_4 rfl (lv_at hl 0 rfl) ?_
    refine va_get (ci := 6) (v := .ref (ad 17)) (C := RX6) (T := TX6) (N := 34) hx hb hts hin_X6 hown hK hP 0 rfl rfl 4 (by decide) fl_13 (fun _ h9 => h9) rfl dX6_linkNow_5 ?_
    refine lv_iload_n hx hb dX6_linkNow_8 rfl (lv_at hl 1 rfl) ?_
    obtain ⟨g7, hf⟩ := oo_g hf
    refine va_iald hx hb hK hP 2 0 rfl rfl g7 dX6_linkNow_9 ?_
    refine lv_goto (tgt := 32) hx hb dX6_linkNow_10 (by decide) ?_
    cases hf
    exact hret _ _ _ _ dX6_linkNow_32 hP hD hS
def f_X6_link (mo_links : Int32) (mo_fromOf : Nat → Int32) (mo_toOf : Nat → Int32) (mo_bundleOf : Nat → Int32) (x1 : Int32) (x2 : Int32) : Option (Int32) :=
  if (f_X6_isLink mo_links x1) = (0 : Int32) then
    some (-1001 : Int32)
  else
    if (f_X6_within x2 (0 : Int32) (2 : Int32)) = (0 : Int32) then
      some (-1002 : Int32)
    else
      Option.bind (f_X6_linkNow mo_fromOf mo_toOf mo_bundleOf x1 x2) fun r6 =>
      some r6
abbrev rm_X6_link : Room := { frames := 3, cells := 0, slots := 0, locals := 66 }
set_option maxHeartbeats 4000000 in
set_option maxRecDepth 100000 in
theorem c_X6_link (l : Launch) (D : va_G) (cI cJ : ClassId) (ad : Nat → Nat) (sz : Nat) {mo_pageLength : Int32} {mo_page : Nat → Int32} {mo_nodes mo_links : Int32} {mo_fromOf mo_toOf : Nat → Int32} {mo_width mo_drawn mo_seed : Int32} {mo_bundleOf : Nat → Int32} {mo_netsRead mo_sent mo_passagesEver mo_astrayEver mo_loopsEver mo_newNodes mo_newPairs mo_due mo_newOne : Int32} {mo_newFrom mo_newTo : Nat → Int32} {mo_marks : Nat → Int64} {mo_drawing : Int64} {mo_leftOf : Nat → Int32} {mo_wayMany : Int32} {mo_wayAt : Nat → Int32} {mo_bitsNow : Int64} {mo_passages mo_astray mo_loops mo_steps mo_reached mo_others : Int32} {mo_h : Int64} (x1 : Int32) (x2 : Int32) {o_res : Int32} (hf : f_X6_link mo_links mo_fromOf mo_toOf mo_bundleOf x1 x2 = some o_res) : CtI l yX6_link wsX6_link rm_X6_link D cI cJ [.ref (ad 15), .int x1, .int x2] (wdM cI cJ ad mo_pageLength mo_page mo_nodes mo_links mo_fromOf mo_toOf mo_width mo_drawn mo_seed mo_bundleOf mo_netsRead mo_sent mo_passagesEver mo_astrayEver mo_loopsEver mo_newNodes mo_newPairs mo_due mo_newOne mo_newFrom mo_newTo mo_marks mo_drawing mo_leftOf mo_wayMany mo_wayAt mo_bitsNow mo_passages mo_astray mo_loops mo_steps mo_reached mo_others mo_h) sz o_res (wdM cI cJ ad mo_pageLength mo_page mo_nodes mo_links mo_fromOf mo_toOf mo_width mo_drawn mo_seed mo_bundleOf mo_netsRead mo_sent mo_passagesEver mo_astrayEver mo_loopsEver mo_newNodes mo_newPairs mo_due mo_newOne mo_newFrom mo_newTo mo_marks mo_drawing mo_leftOf mo_wayMany mo_wayAt mo_bitsNow mo_passages mo_astray mo_loops mo_steps mo_reached mo_others mo_h) := by
  refine ctI_of (cc := cX6_link) (maxL := 3) (by decide) rfl (Nat.le_of_ble_eq_true rfl) ?_
  intro p e s m below meth c Q A hx hb hml hown hts hK hN hA hret ls hl hP hD hS
  obtain ⟨args, hargs⟩ : ∃ a : Array Value, a = [.ref (ad 15), .int x1, .int x2].toArray := ⟨_, rfl⟩
  rw [← hargs] at hts hret ⊢
  have hown : s.vm.findClass RX6 = some m.cls := hown
  have hl : lv_has ls 3 [(0, .ref (ad 15)), (1, .int x1), (2, .int x2)] := hl
  unfold f_X6_link at hf
  refine lv_aload_n hx hb dX6_link_0 rfl (lv_at hl 0 rfl) ?_
  refine lv_iload_n hx hb dX6_link_1 rfl (lv_at hl 1 rfl) ?_
  have F : Fr D A _ (wdM cI cJ ad mo_pageLength mo_page mo_nodes mo_links mo_fromOf mo_toOf mo_width mo_drawn mo_seed mo_bundleOf mo_netsRead mo_sent mo_passagesEver mo_astrayEver mo_loopsEver mo_newNodes mo_newPairs mo_due mo_newOne mo_newFrom mo_newTo mo_marks mo_drawing mo_leftOf mo_wayMany mo_wayAt mo_bitsNow mo_passages mo_astray mo_loops mo_steps mo_reached mo_others mo_h) (wdM cI cJ ad mo_pageLength mo_page mo_nodes mo_links mo_fromOf mo_toOf mo_width mo_drawn mo_seed mo_bundleOf mo_netsRead mo_sent mo_passagesEver mo_astrayEver mo_loopsEver mo_newNodes mo_newPairs mo_due mo_newOne mo_newFrom mo_newTo mo_marks mo_drawing mo_leftOf mo_wayMany mo_wayAt mo_bitsNow mo_passages mo_astray mo_loops mo_steps mo_reached mo_others mo_h) (wdM cI cJ ad mo_pageLength mo_page mo_nodes mo_links mo_fromOf mo_toOf mo_width mo_drawn mo_seed mo_bundleOf mo_netsRead mo_sent mo_passagesEver mo_astrayEver mo_loopsEver mo_newNodes mo_newPairs mo_due mo_newOne mo_newFrom mo_newTo mo_marks mo_drawing mo_leftOf mo_wayMany mo_wayAt mo_bitsNow mo_passages mo_astray mo_loops mo_steps mo_reached mo_others mo_h) := fr_self hP hD hS hA
  refine kZ F hS (rV (q := (RX6, TX6, 34)) (As := [.int x1]) (rest := []) ⟨hx, hb, hml, hown, hts⟩ hK hN F (c_X6_isLink l D cI cJ ad _ (mo_pageLength := mo_pageLength) (mo_page := mo_page) (mo_nodes := mo_nodes) (mo_links := mo_links) (mo_fromOf := mo_fromOf) (mo_toOf := mo_toOf) (mo_width := mo_width) (mo_drawn := mo_drawn) (mo_seed := mo_seed) (mo_bundleOf := mo_bundleOf) (mo_netsRead := mo_netsRead) (mo_sent := mo_sent) (mo_passagesEver := mo_passagesEver) (mo_astrayEver := mo_astrayEver) (mo_loopsEver := mo_loopsEver) (mo_newNodes := mo_newNodes) (mo_newPairs := mo_newPairs) (mo_due := mo_due) (mo_newOne := mo_newOne) (mo_newFrom := mo_newFrom) (mo_newTo := mo_newTo) (mo_marks := mo_marks) (mo_drawing := mo_drawing) (mo_leftOf := mo_leftOf) (mo_wayMany := mo_wayMany) (mo_wayAt := mo_wayAt) (mo_bitsNow := mo_bitsNow) (mo_passages := mo_passages) (mo_astray := mo_astray) (mo_loops := mo_loops) (mo_steps := mo_steps) (mo_reached := mo_reached) (mo_others := mo_others) (mo_h := mo_h) x1 (o_res := (f_X6_isLink mo_links x1)) rfl) (cwV 1 hts gX6_link_X6_isLink rfl rfl rfl (by decide +kernel) ⟨Nat.le_of_ble_eq_true rfl, Nat.le_of_ble_eq_true rfl⟩) (ci := 6) rfl rfl rfl hl.1 rfl (Nat.le_of_ble_eq_true rfl) dX6_link_2 ⟨Nat.zero_le _, Nat.zero_le _⟩) (fun H locs hb1 hP hD hS => ?_)
  refine lv_if_ne (tgt := 12) hx hb dX6_link_5 (by decide) (fun c2 => ?_) (fun c2 => ?_)
  · have hf := oo_f hf c2
    refine lv_iload_n hx hb dX6_link_12 rfl (lv_at hl 2 rfl) ?_
    refine lv_iconst (v := (0 : Int32)) hx hb dX6_link_13 (by decide) ?_
    refine lv_iconst (v := (2 : Int32)) hx hb dX6_link_14 (by decide) ?_
    have F : Fr D A _ [] [] (wdM cI cJ ad mo_pageLength mo_page mo_nodes mo_links mo_fromOf mo_toOf mo_width mo_drawn mo_seed mo_bundleOf mo_netsRead mo_sent mo_passagesEver mo_astrayEver mo_loopsEver mo_newNodes mo_newPairs mo_due mo_newOne mo_newFrom mo_newTo mo_marks mo_drawing mo_leftOf mo_wayMany mo_wayAt mo_bitsNow mo_passages mo_astray mo_loops mo_steps mo_reached mo_others mo_h) := fr_nil hP hD hS hA
    refine kZ F hS (rS (As := [.int x2, .int (0 : Int32), .int (2 : Int32)]) (rest := []) ⟨hx, hb, hml, hown, hts⟩ hK hN F (c_X6_within l D cI cJ ad _  x2 (0 : Int32) (2 : Int32) (o_res := (f_X6_within x2 (0 : Int32) (2 : Int32))) rfl) (cwS 3 hts gX6_link_X6_within rfl rfl rfl (by decide +kernel) ⟨Nat.le_of_ble_eq_true rfl, Nat.le_of_ble_eq_true rfl⟩) rfl hl.1 rfl (Nat.le_of_ble_eq_true rfl) dX6_link_15 ⟨Nat.zero_le _, Nat.zero_le _⟩) (fun H locs hb3 hP hD hS => ?_)
    refine lv_if_eq (tgt := 30) hx hb dX6_link_18 (by decide) (fun c4 => ?_) (fun c4 => ?_)
    · have hf := oo_t hf c4
      refine lv_sipush (v := (-1002 : Int32)) hx hb dX6_link_30 (by decide) ?_
      cases hf
      exact hret _ _ _ _ dX6_link_33 hP hD hS
    · have hf := oo_f hf c4
      refine lv_aload_n hx hb dX6_link_21 rfl (lv_at hl 0 rfl) ?_
      refine lv_iload_n hx hb dX6_link_22 rfl (lv_at hl 1 rfl) ?_
      refine lv_iload_n hx hb dX6_link_23 rfl (lv_at hl 2 rfl) ?_
      obtain ⟨r6, h5, hf⟩ := oo_b hf
      try dsimp only at hf
      have F : Fr D A _ (wdM cI cJ ad mo_pageLength mo_page mo_nodes mo_links mo_fromOf mo_toOf mo_width mo_drawn mo_seed mo_bundleOf mo_netsRead mo_sent mo_passagesEver mo_astrayEver mo_loopsEver mo_newNodes mo_newPairs mo_due mo_newOne mo_newFrom mo_newTo mo_marks mo_drawing mo_leftOf mo_wayMany mo_wayAt mo_bitsNow mo_passages mo_astray mo_loops mo_steps mo_reached mo_others mo_h) (wdM cI cJ ad mo_pageLength mo_page mo_nodes mo_links mo_fromOf mo_toOf mo_width mo_drawn mo_seed mo_bundleOf mo_netsRead mo_sent mo_passagesEver mo_astrayEver mo_loopsEver mo_newNodes mo_newPairs mo_due mo_newOne mo_newFrom mo_newTo mo_marks mo_drawing mo_leftOf mo_wayMany mo_wayAt mo_bitsNow mo_passages mo_astray mo_loops mo_steps mo_reached mo_others mo_h) (wdM cI cJ ad mo_pageLength mo_page mo_nodes mo_links mo_fromOf mo_toOf mo_width mo_drawn mo_seed mo_bundleOf mo_netsRead mo_sent mo_passagesEver mo_astrayEver mo_loopsEver mo_newNodes mo_newPairs mo_due mo_newOne mo_newFrom mo_newTo mo_marks mo_drawing mo_leftOf mo_wayMany mo_wayAt mo_bitsNow mo_passages mo_astray mo_loops mo_steps mo_reached mo_others mo_h) := fr_self hP hD hS hA
      refine kI F hS (rV (q := (RX6, TX6, 34)) (As := [.int x1, .int x2]) (rest := []) ⟨hx, hb, hml, hown, hts⟩ hK hN F (c_X6_linkNow l D cI cJ ad _ (mo_pageLength := mo_pageLength) (mo_page := mo_page) (mo_nodes := mo_nodes) (mo_links := mo_links) (mo_fromOf := mo_fromOf) (mo_toOf := mo_toOf) (mo_width := mo_width) (mo_drawn := mo_drawn) (mo_seed := mo_seed) (mo_bundleOf := mo_bundleOf) (mo_netsRead := mo_netsRead) (mo_sent := mo_sent) (mo_passagesEver := mo_passagesEver) (mo_astrayEver := mo_astrayEver) (mo_loopsEver := mo_loopsEver) (mo_newNodes := mo_newNodes) (mo_newPairs := mo_newPairs) (mo_due := mo_due) (mo_newOne := mo_newOne) (mo_newFrom := mo_newFrom) (mo_newTo := mo_newTo) (mo_marks := mo_marks) (mo_drawing := mo_drawing) (mo_leftOf := mo_leftOf) (mo_wayMany := mo_wayMany) (mo_wayAt := mo_wayAt) (mo_bitsNow := mo_bitsNow) (mo_passages := mo_passages) (mo_astray := mo_astray) (mo_loops := mo_loops) (mo_steps := mo_steps) (mo_reached := mo_reached) (mo_others := mo_others) (mo_h := mo_h) x1 x2 (o_res := r6) h5) (cwV 2 hts gX6_link_X6_linkNow rfl rfl rfl (by decide +kernel) ⟨Nat.le_of_ble_eq_true rfl, Nat.le_of_ble_eq_true rfl⟩) (ci := 6) rfl rfl rfl hl.1 rfl (Nat.le_of_ble_eq_true rfl) dX6_link_24 ⟨Nat.zero_le _, Nat.zero_le _⟩) (fun H locs hP hD hS => ?_)
      refine lv_goto (tgt := 33) hx hb dX6_link_27 (by decide) ?_
      cases hf
      exact hret _ _ _ _ dX6_link_33 hP hD hS
  · have hf := oo_t hf c2
    refine lv_sipush (v := (-1001 : Int32)) hx hb dX6_link_8 (by decide) ?_
    cases hf
    exact hret _ _ _ _ dX6_link_11 hP hD hS
def f_X6_isNode (mo_nodes : Int32) (x1 : Int32) : Int32 :=
  (f_X6_within x1 (0 : Int32) (mo_nodes - (1 : Int32)))
abbrev rm_X6_isNode : Room := { frames := 1, cells := 0, slots := 0, locals := 22 }
set_option maxHeartbeats 4000000 in
set_option maxRecDepth 100000 in
theorem c_X6_isNode (l : Launch) (D : va_G) (cI cJ : ClassId) (ad : Nat → Nat) (sz : Nat) {mo_pageLength : Int32} {mo_page : Nat → Int32} {mo_nodes mo_links : Int32} {mo_fromOf mo_toOf : Nat → Int32} {mo_width mo_drawn mo_seed : Int32} {mo_bundleOf : Nat → Int32} {mo_netsRead mo_sent mo_passagesEver mo_astrayEver mo_loopsEver mo_newNodes mo_newPairs mo_due mo_newOne : Int32} {mo_newFrom mo_newTo : Nat → Int32} {mo_marks : Nat → Int64} {mo_drawing : Int64} {mo_leftOf : Nat → Int32} {mo_wayMany : Int32} {mo_wayAt : Nat → Int32} {mo_bitsNow : Int64} {mo_passages mo_astray mo_loops mo_steps mo_reached mo_others : Int32} {mo_h : Int64} (x1 : Int32) {o_res : Int32} (hf : f_X6_isNode mo_nodes x1 = o_res) : CtZ l yX6_isNode wsX6_isNode rm_X6_isNode D cI cJ [.ref (ad 15), .int x1] (wdM cI cJ ad mo_pageLength mo_page mo_nodes mo_links mo_fromOf mo_toOf mo_width mo_drawn mo_seed mo_bundleOf mo_netsRead mo_sent mo_passagesEver mo_astrayEver mo_loopsEver mo_newNodes mo_newPairs mo_due mo_newOne mo_newFrom mo_newTo mo_marks mo_drawing mo_leftOf mo_wayMany mo_wayAt mo_bitsNow mo_passages mo_astray mo_loops mo_steps mo_reached mo_others mo_h) sz o_res (wdM cI cJ ad mo_pageLength mo_page mo_nodes mo_links mo_fromOf mo_toOf mo_width mo_drawn mo_seed mo_bundleOf mo_netsRead mo_sent mo_passagesEver mo_astrayEver mo_loopsEver mo_newNodes mo_newPairs mo_due mo_newOne mo_newFrom mo_newTo mo_marks mo_drawing mo_leftOf mo_wayMany mo_wayAt mo_bitsNow mo_passages mo_astray mo_loops mo_steps mo_reached mo_others mo_h) := by
  refine ctZ_of (cc := cX6_isNode) (maxL := 2) (by decide) rfl (Nat.le_of_ble_eq_true rfl) ?_
  intro p e s m below meth c Q A hx hb hml hown hts hK hN hA hret ls hl hP hD hS
  obtain ⟨args, hargs⟩ : ∃ a : Array Value, a = [.ref (ad 15), .int x1].toArray := ⟨_, rfl⟩
  rw [← hargs] at hts hret ⊢
  have hown : s.vm.findClass RX6 = some m.cls := hown
  have hl : lv_has ls 2 [(0, .ref (ad 15)), (1, .int x1)] := hl
  have hin_X6 : ∀ w ∈ wsX60, w ∈ wsX6_isNode := fun _ h => List.mem_cons_of_mem _ (List.mem_append_right _ h)
  have fl_82 : (Cond.fieldLink RX6 82 "FoldedWaysModel" "nodes" "I").before args s = true := hat hts 1 rfl
  unfold f_X6_isNode at hf
  refine lv_iload_n hx hb dX6_isNode_0 rfl (lv_at hl 1 rfl) ?_
  refine lv_iconst (v := (0 : Int32)) hx hb dX6_isNode_1 (by decide) ?_
  refine lv_aload_n hx hb dX6_isNode_2 rfl (lv_at hl 0 rfl) ?_
  refine va_get (ci := 6) (v := .int mo_nodes) (C := RX6) (T := TX6) (N := 34) hx hb hts hin_X6 hown hK hP 0 rfl rfl 2 (by decide) fl_82 (fun _ h9 => h9) rfl dX6_isNode_3 ?_
  refine lv_iconst (v := (1 : Int32)) hx hb dX6_isNode_6 (by decide) ?_
  refine lv_isub hx hb dX6_isNode_7 ?_
  have F : Fr D A _ [] [] (wdM cI cJ ad mo_pageLength mo_page mo_nodes mo_links mo_fromOf mo_toOf mo_width mo_drawn mo_seed mo_bundleOf mo_netsRead mo_sent mo_passagesEver mo_astrayEver mo_loopsEver mo_newNodes mo_newPairs mo_due mo_newOne mo_newFrom mo_newTo mo_marks mo_drawing mo_leftOf mo_wayMany mo_wayAt mo_bitsNow mo_passages mo_astray mo_loops mo_steps mo_reached mo_others mo_h) := fr_nil hP hD hS hA
  refine kZ F hS (rS (As := [.int x1, .int (0 : Int32), .int (mo_nodes - (1 : Int32))]) (rest := []) ⟨hx, hb, hml, hown, hts⟩ hK hN F (c_X6_within l D cI cJ ad _  x1 (0 : Int32) (mo_nodes - (1 : Int32)) (o_res := (f_X6_within x1 (0 : Int32) (mo_nodes - (1 : Int32)))) rfl) (cwS 3 hts gX6_isNode_X6_within rfl rfl rfl (by decide +kernel) ⟨Nat.le_of_ble_eq_true rfl, Nat.le_of_ble_eq_true rfl⟩) rfl hl.1 rfl (Nat.le_of_ble_eq_true rfl) dX6_isNode_8 ⟨Nat.zero_le _, Nat.zero_le _⟩) (fun H locs hb1 hP hD hS => ?_)
  cases hf
  exact hret _ _ _ _ hb1 dX6_isNode_11 hP hD hS
def f_X6_layLeft_L2 (mo_nodes : Int32) (x1 : Int32) : Nat → (Nat → Int32) → Int32 → Option ((Nat → Int32))
  | 0, _, _ => none
  | n + 1, mo_leftOf_a2, x2_a2 =>
      if mo_nodes ≤ x2_a2 then
        some mo_leftOf_a2
      else
        if x2_a2 < 0 ∨ 6 ≤ (x2_a2).toNatClampNeg then none else
        f_X6_layLeft_L2 mo_nodes x1 n (upd mo_leftOf_a2 (x2_a2).toNatClampNeg (if x2_a2 = x1 then (0 : Int32) else (6 : Int32))) (x2_a2 + (1 : Int32))
theorem f_X6_layLeft_L2_s (mo_nodes : Int32) (x1 : Int32) (n : Nat) (mo_leftOf_a2 : Nat → Int32) (x2_a2 : Int32) : f_X6_layLeft_L2 mo_nodes x1 (n + 1) mo_leftOf_a2 x2_a2 =
      (if mo_nodes ≤ x2_a2 then
        some mo_leftOf_a2
      else
        if x2_a2 < 0 ∨ 6 ≤ (x2_a2).toNatClampNeg then none else
        f_X6_layLeft_L2 mo_nodes x1 n (upd mo_leftOf_a2 (x2_a2).toNatClampNeg (if x2_a2 = x1 then (0 : Int32) else (6 : Int32))) (x2_a2 + (1 : Int32))) := rfl
def f_X6_layLeft_L45 (mo_links : Int32) (mo_fromOf : Nat → Int32) (mo_toOf : Nat → Int32) : Nat → (Nat → Int32) → Int32 → Option ((Nat → Int32))
  | 0, _, _ => none
  | n + 1, mo_leftOf_a45, x3_a45 =>
      if mo_links ≤ x3_a45 then
        some mo_leftOf_a45
      else
        if x3_a45 < 0 ∨ 16 ≤ (x3_a45).toNatClampNeg then none else
        if (mo_toOf (x3_a45).toNatClampNeg) < 0 ∨ 6 ≤ ((mo_toOf (x3_a45).toNatClampNeg)).toNatClampNeg then none else
        if (mo_fromOf (x3_a45).toNatClampNeg) < 0 ∨ 6 ≤ ((mo_fromOf (x3_a45).toNatClampNeg)).toNatClampNeg then none else
        Option.bind (α := Int32) (if (mo_leftOf_a45 ((mo_fromOf (x3_a45).toNatClampNeg)).toNatClampNeg) ≤ ((mo_leftOf_a45 ((mo_toOf (x3_a45).toNatClampNeg)).toNatClampNeg) + (1 : Int32)) then
            some (mo_leftOf_a45 ((mo_fromOf (x3_a45).toNatClampNeg)).toNatClampNeg)
          else
            some ((mo_leftOf_a45 ((mo_toOf (x3_a45).toNatClampNeg)).toNatClampNeg) + (1 : Int32))) fun k_20 =>
        f_X6_layLeft_L45 mo_links mo_fromOf mo_toOf n (upd mo_leftOf_a45 ((mo_fromOf (x3_a45).toNatClampNeg)).toNatClampNeg k_20) (x3_a45 + (1 : Int32))
theorem f_X6_layLeft_L45_s (mo_links : Int32) (mo_fromOf : Nat → Int32) (mo_toOf : Nat → Int32) (n : Nat) (mo_leftOf_a45 : Nat → Int32) (x3_a45 : Int32) : f_X6_layLeft_L45 mo_links mo_fromOf mo_toOf (n + 1) mo_leftOf_a45 x3_a45 =
      (if mo_links ≤ x3_a45 then
        some mo_leftOf_a45
      else
        if x3_a45 < 0 ∨ 16 ≤ (x3_a45).toNatClampNeg then none else
        if (mo_toOf (x3_a45).toNatClampNeg) < 0 ∨ 6 ≤ ((mo_toOf (x3_a45).toNatClampNeg)).toNatClampNeg then none else
        if (mo_fromOf (x3_a45).toNatClampNeg) < 0 ∨ 6 ≤ ((mo_fromOf (x3_a45).toNatClampNeg)).toNatClampNeg then none else
        Option.bind (α := Int32) (if (mo_leftOf_a45 ((mo_fromOf (x3_a45).toNatClampNeg)).toNatClampNeg) ≤ ((mo_leftOf_a45 ((mo_toOf (x3_a45).toNatClampNeg)).toNatClampNeg) + (1 : Int32)) then
            some (mo_leftOf_a45 ((mo_fromOf (x3_a45).toNatClampNeg)).toNatClampNeg)
          else
            some ((mo_leftOf_a45 ((mo_toOf (x3_a45).toNatClampNeg)).toNatClampNeg) + (1 : Int32))) fun k_20 =>
        f_X6_layLeft_L45 mo_links mo_fromOf mo_toOf n (upd mo_leftOf_a45 ((mo_fromOf (x3_a45).toNatClampNeg)).toNatClampNeg k_20) (x3_a45 + (1 : Int32))) := rfl
def f_X6_layLeft_L35 (mo_nodes : Int32) (mo_links : Int32) (mo_fromOf : Nat → Int32) (mo_toOf : Nat → Int32) : Nat → (Nat → Int32) → Int32 → Option ((Nat → Int32))
  | 0, _, _ => none
  | n + 1, mo_leftOf_a35, x2_a35 =>
      if mo_nodes ≤ x2_a35 then
        some mo_leftOf_a35
      else
        Option.bind (f_X6_layLeft_L45 mo_links mo_fromOf mo_toOf 100 mo_leftOf_a35 (0 : Int32)) fun mo_leftOf_o12 =>
        f_X6_layLeft_L35 mo_nodes mo_links mo_fromOf mo_toOf n mo_leftOf_o12 (x2_a35 + (1 : Int32))
theorem f_X6_layLeft_L35_s (mo_nodes : Int32) (mo_links : Int32) (mo_fromOf : Nat → Int32) (mo_toOf : Nat → Int32) (n : Nat) (mo_leftOf_a35 : Nat → Int32) (x2_a35 : Int32) : f_X6_layLeft_L35 mo_nodes mo_links mo_fromOf mo_toOf (n + 1) mo_leftOf_a35 x2_a35 =
      (if mo_nodes ≤ x2_a35 then
        some mo_leftOf_a35
      else
        Option.bind (f_X6_layLeft_L45 mo_links mo_fromOf mo_toOf 100 mo_leftOf_a35 (0 : Int32)) fun mo_leftOf_o12 =>
        f_X6_layLeft_L35 mo_nodes mo_links mo_fromOf mo_toOf n mo_leftOf_o12 (x2_a35 + (1 : Int32))) := rfl
def f_X6_layLeft (mo_nodes : Int32) (mo_links : Int32) (mo_fromOf : Nat → Int32) (mo_toOf : Nat → Int32) (mo_leftOf : Nat → Int32) (x1 : Int32) : Option ((Nat → Int32)) :=
  Option.bind (f_X6_layLeft_L2 mo_nodes x1 100 mo_leftOf (0 : Int32)) fun mo_leftOf_o1 =>
  Option.bind (f_X6_layLeft_L35 mo_nodes mo_links mo_fromOf mo_toOf 100 mo_leftOf_o1 (0 : Int32)) fun mo_leftOf_o9 =>
  some mo_leftOf_o9
abbrev rm_X6_layLeft : Room := { frames := 0, cells := 0, slots := 0, locals := 0 }
set_option maxHeartbeats 4000000 in
set_option maxRecDepth 100000 in
theorem c_X6_layLeft (l : Launch) (D : va_G) (cI cJ : ClassId) (ad : Nat → Nat) (sz : Nat) {mo_pageLength : Int32} {mo_page : Nat → Int32} {mo_nodes mo_links : Int32} {mo_fromOf mo_toOf : Nat → Int32} {mo_width mo_drawn mo_seed : Int32} {mo_bundleOf : Nat → Int32} {mo_netsRead mo_sent mo_passagesEver mo_astrayEver mo_loopsEver mo_newNodes mo_newPairs mo_due mo_newOne : Int32} {mo_newFrom mo_newTo : Nat → Int32} {mo_marks : Nat → Int64} {mo_drawing : Int64} {mo_leftOf : Nat → Int32} {mo_wayMany : Int32} {mo_wayAt : Nat → Int32} {mo_bitsNow : Int64} {mo_passages mo_astray mo_loops mo_steps mo_reached mo_others : Int32} {mo_h : Int64} (x1 : Int32) {o_mo_leftOf : Nat → Int32} (hf : f_X6_layLeft mo_nodes mo_links mo_fromOf mo_toOf mo_leftOf x1 = some o_mo_leftOf) : CtV l yX6_layLeft wsX6_layLeft rm_X6_layLeft D cI cJ [.ref (ad 15), .int x1] (wdM cI cJ ad mo_pageLength mo_page mo_nodes mo_links mo_fromOf mo_toOf mo_width mo_drawn mo_seed mo_bundleOf mo_netsRead mo_sent mo_passagesEver mo_astrayEver mo_loopsEver mo_newNodes mo_newPairs mo_due mo_newOne mo_newFrom mo_newTo mo_marks mo_drawing mo_leftOf mo_wayMany mo_wayAt mo_bitsNow mo_passages mo_astray mo_loops mo_steps mo_reached mo_others mo_h) sz (wdM cI cJ ad mo_pageLength mo_page mo_nodes mo_links mo_fromOf mo_toOf mo_width mo_drawn mo_seed mo_bundleOf mo_netsRead mo_sent mo_passagesEver mo_astrayEver mo_loopsEver mo_newNodes mo_newPairs mo_due mo_newOne mo_newFrom mo_newTo mo_marks mo_drawing o_mo_leftOf mo_wayMany mo_wayAt mo_bitsNow mo_passages mo_astray mo_loops mo_steps mo_reached mo_others mo_h) := by
  refine ctV_of (cc := cX6_layLeft) (maxL := 5) (by decide) rfl (Nat.le_of_ble_eq_true rfl) ?_
  intro p e s m below meth c Q A hx hb hml hown hts hK hN hA hret ls hl hP hD hS
  obtain ⟨args, hargs⟩ : ∃ a : Array Value, a = [.ref (ad 15), .int x1].toArray := ⟨_, rfl⟩
  rw [← hargs] at hts hret ⊢
  have hown : s.vm.findClass RX6 = some m.cls := hown
  have hl : lv_has ls 5 [(0, .ref (ad 15)), (1, .int x1)] := hl
  have hin_X6 : ∀ w ∈ wsX60, w ∈ wsX6_layLeft := fun _ h => List.mem_cons_of_mem _ (List.mem_append_right _ h)
  have fl_13 : (Cond.fieldLink RX6 13 "FoldedWaysModel" "fromOf" "[I").before args s = true := hat hts 5 rfl
  have fl_16 : (Cond.fieldLink RX6 16 "FoldedWaysModel" "toOf" "[I").before args s = true := hat hts 4 rfl
  have fl_42 : (Cond.fieldLink RX6 42 "FoldedWaysModel" "leftOf" "[I").before args s = true := hat hts 2 rfl
  have fl_82 : (Cond.fieldLink RX6 82 "FoldedWaysModel" "nodes" "I").before args s = true := hat hts 1 rfl
  have fl_85 : (Cond.fieldLink RX6 85 "FoldedWaysModel" "links" "I").before args s = true := hat hts 3 rfl
  unfold f_X6_layLeft at hf
  refine lv_iconst (v := (0 : Int32)) hx hb dX6_layLeft_0 (by decide) ?_
  refine lv_istore_n (lv' := [(2, .int (0 : Int32)), (0, .ref (ad 15)), (1, .int x1)]) hx hb dX6_layLeft_1 rfl hl (by decide) rfl (fun ls hl => ?_)
  have lp2 : ∀ (n : Nat) (mo_leftOf_a2 : Nat → Int32) (x2_a2 : Int32) (mo_leftOf_o1 : Nat → Int32), f_X6_layLeft_L2 mo_nodes x1 n mo_leftOf_a2 x2_a2 = some mo_leftOf_o1 → (∀ (H : Heap) (locs : List Loc) (ls : Array Slot), va_P D vwCl (wdM cI cJ ad mo_pageLength mo_page mo_nodes mo_links mo_fromOf mo_toOf mo_width mo_drawn mo_seed mo_bundleOf mo_netsRead mo_sent mo_passagesEver mo_astrayEver mo_loopsEver mo_newNodes mo_newPairs mo_due mo_newOne mo_newFrom mo_newTo mo_marks mo_drawing mo_leftOf_o1 mo_wayMany mo_wayAt mo_bitsNow mo_passages mo_astray mo_loops mo_steps mo_reached mo_others mo_h) H → va_D A (wdM cI cJ ad mo_pageLength mo_page mo_nodes mo_links mo_fromOf mo_toOf mo_width mo_drawn mo_seed mo_bundleOf mo_netsRead mo_sent mo_passagesEver mo_astrayEver mo_loopsEver mo_newNodes mo_newPairs mo_due mo_newOne mo_newFrom mo_newTo mo_marks mo_drawing mo_leftOf_o1 mo_wayMany mo_wayAt mo_bitsNow mo_passages mo_astray mo_loops mo_steps mo_reached mo_others mo_h) → va_S A s.heap H locs → lv_has ls 5 [(0, .ref (ad 15))] → W p l e rm_X6_layLeft s m args below meth c H locs 0 0 Q (F0 m 33 ls [])) → ∀ (H : Heap) (locs : List Loc) (ls : Array Slot), va_P D vwCl (wdM cI cJ ad mo_pageLength mo_page mo_nodes mo_links mo_fromOf mo_toOf mo_width mo_drawn mo_seed mo_bundleOf mo_netsRead mo_sent mo_passagesEver mo_astrayEver mo_loopsEver mo_newNodes mo_newPairs mo_due mo_newOne mo_newFrom mo_newTo mo_marks mo_drawing mo_leftOf_a2 mo_wayMany mo_wayAt mo_bitsNow mo_passages mo_astray mo_loops mo_steps mo_reached mo_others mo_h) H → va_D A (wdM cI cJ ad mo_pageLength mo_page mo_nodes mo_links mo_fromOf mo_toOf mo_width mo_drawn mo_seed mo_bundleOf mo_netsRead mo_sent mo_passagesEver mo_astrayEver mo_loopsEver mo_newNodes mo_newPairs mo_due mo_newOne mo_newFrom mo_newTo mo_marks mo_drawing mo_leftOf_a2 mo_wayMany mo_wayAt mo_bitsNow mo_passages mo_astray mo_loops mo_steps mo_reached mo_others mo_h) → va_S A s.heap H locs → lv_has ls 5 [(0, .ref (ad 15)), (1, .int x1), (2, .int x2_a2)] → W p l e rm_X6_layLeft s m args below meth c H locs 0 0 Q (F0 m 2 ls []) := by
    intro n
    induction n with
    | zero =>
      intro mo_leftOf_a2 x2_a2 mo_leftOf_o1 h0
      exact oo_n h0
    | succ n ih =>
      intro mo_leftOf_a2 x2_a2 mo_leftOf_o1 hf kk H locs ls hP hD hS hl
      rw [f_X6_layLeft_L2_s] at hf
      refine lv_iload_n hx hb dX6_layLeft_2 rfl (lv_at hl 2 rfl) ?_
      refine lv_aload_n hx hb dX6_layLeft_3 rfl (lv_at hl 0 rfl) ?_
      refine va_get (ci := 6) (v := .int mo_nodes) (C := RX6) (T := TX6) (N := 34) hx hb hts hin_X6 hown hK hP 0 rfl rfl 2 (by decide) fl_82 (fun _ h9 => h9) rfl dX6_layLeft_4 ?_
      refine lv_icmp_ge (tgt := 33) hx hb dX6_layLeft_7 (by decide) (fun c3 => ?_) (fun c3 => ?_)
      · have hf := oo_t hf c3
        cases hf
        exact kk _ _ _ hP hD hS (lv_sub hl [0] rfl)
      · have hf := oo_f hf c3
        refine lv_aload_n hx hb dX6_layLeft_10 rfl (lv_at hl 0 rfl) ?_
        refine va_get (ci := 6) (v := .ref (ad 23)) (C := RX6) (T := TX6) (N := 34) hx hb hts hin_X6 hown hK hP 0 rfl rfl 23 (by decide) fl_42 (fun _ h9 => h9) rfl dX6_layLeft_11 ?_
        refine lv_iload_n hx hb dX6_layLeft_14 rfl (lv_at hl 2 rfl) ?_
        refine lv_iload_n hx hb dX6_layLeft_15 rfl (lv_at hl 2 rfl) ?_
        refine lv_iload_n hx hb dX6_layLeft_16 rfl (lv_at hl 1 rfl) ?_
        have kj5 : ∀ (k_4 : Int32), k_4 = (if x2_a2 = x1 then (0 : Int32) else (6 : Int32)) → ∀ (H : Heap) (locs : List Loc) (ls : Array Slot), va_P D vwCl (wdM cI cJ ad mo_pageLength mo_page mo_nodes mo_links mo_fromOf mo_toOf mo_width mo_drawn mo_seed mo_bundleOf mo_netsRead mo_sent mo_passagesEver mo_astrayEver mo_loopsEver mo_newNodes mo_newPairs mo_due mo_newOne mo_newFrom mo_newTo mo_marks mo_drawing mo_leftOf_a2 mo_wayMany mo_wayAt mo_bitsNow mo_passages mo_astray mo_loops mo_steps mo_reached mo_others mo_h) H → va_D A (wdM cI cJ ad mo_pageLength mo_page mo_nodes mo_links mo_fromOf mo_toOf mo_width mo_drawn mo_seed mo_bundleOf mo_netsRead mo_sent mo_passagesEver mo_astrayEver mo_loopsEver mo_newNodes mo_newPairs mo_due mo_newOne mo_newFrom mo_newTo mo_marks mo_drawing mo_leftOf_a2 mo_wayMany mo_wayAt mo_bitsNow mo_passages mo_astray mo_loops mo_steps mo_reached mo_others mo_h) → va_S A s.heap H locs → lv_has ls 5 [(0, .ref (ad 15)), (1, .int x1), (2, .int x2_a2)] → W p l e rm_X6_layLeft s m args below meth c H locs 0 0 Q (F0 m 26 ls [.int k_4, .int x2_a2, .ref (ad 23)]) := by
          intro k_4 ek_4
          subst ek_4
          intro H locs ls hP hD hS hl
          obtain ⟨g6, hf⟩ := oo_g hf
          refine va_iast hx hb hK hP hD hS 8 0 rfl rfl g6 dX6_layLeft_26 (fun H locs hP hD hS => ?_)
          have hP : va_P D vwCl (wdM cI cJ ad mo_pageLength mo_page mo_nodes mo_links mo_fromOf mo_toOf mo_width mo_drawn mo_seed mo_bundleOf mo_netsRead mo_sent mo_passagesEver mo_astrayEver mo_loopsEver mo_newNodes mo_newPairs mo_due mo_newOne mo_newFrom mo_newTo mo_marks mo_drawing (upd mo_leftOf_a2 (x2_a2).toNatClampNeg (if x2_a2 = x1 then (0 : Int32) else (6 : Int32))) mo_wayMany mo_wayAt mo_bitsNow mo_passages mo_astray mo_loops mo_steps mo_reached mo_others mo_h) H := hP
          have hD : va_D A (wdM cI cJ ad mo_pageLength mo_page mo_nodes mo_links mo_fromOf mo_toOf mo_width mo_drawn mo_seed mo_bundleOf mo_netsRead mo_sent mo_passagesEver mo_astrayEver mo_loopsEver mo_newNodes mo_newPairs mo_due mo_newOne mo_newFrom mo_newTo mo_marks mo_drawing (upd mo_leftOf_a2 (x2_a2).toNatClampNeg (if x2_a2 = x1 then (0 : Int32) else (6 : Int32))) mo_wayMany mo_wayAt mo_bitsNow mo_passages mo_astray mo_loops mo_steps mo_reached mo_others mo_h) := hD
          refine lv_iinc (v := (x2_a2 + (1 : Int32))) (lv' := [(2, .int (x2_a2 + (1 : Int32))), (0, .ref (ad 15)), (1, .int x1)]) hx hb dX6_layLeft_27 hl (k := 2) rfl rfl (by decide) rfl (fun ls hl => ?_)
          refine lv_goto (tgt := 2) hx hb dX6_layLeft_30 (by decide) ?_
          exact ih (upd mo_leftOf_a2 (x2_a2).toNatClampNeg (if x2_a2 = x1 then (0 : Int32) else (6 : Int32))) (x2_a2 + (1 : Int32)) _ hf kk _ _ _ hP hD hS (lv_sub hl [1, 2, 0] rfl)
        refine lv_icmp_ne (tgt := 24) hx hb dX6_layLeft_17 (by decide) (fun c7 => ?_) (fun c7 => ?_)
        · refine lv_bipush (v := (6 : Int32)) hx hb dX6_layLeft_24 (by decide) ?_
          exact kj5 (6 : Int32) (if_neg c7).symm _ _ _ hP hD hS (lv_sub hl [0, 1, 2] rfl)
        · refine lv_iconst (v := (0 : Int32)) hx hb dX6_layLeft_20 (by decide) ?_
          refine lv_goto (tgt := 26) hx hb dX6_layLeft_21 (by decide) ?_
          exact kj5 (0 : Int32) (if_pos c7).symm _ _ _ hP hD hS (lv_sub hl [0, 1, 2] rfl)
  obtain ⟨mo_leftOf_o1, h8, hf⟩ := oo_b hf
  try dsimp only at hf
  refine lp2  100 mo_leftOf (0 : Int32) mo_leftOf_o1 h8 (fun H locs ls hP hD hS hl => ?_) _ _ _ hP hD hS (lv_sub hl [1, 2, 0] rfl)
  refine lv_iconst (v := (0 : Int32)) hx hb dX6_layLeft_33 (by decide) ?_
  refine lv_istore_n (lv' := [(2, .int (0 : Int32)), (0, .ref (ad 15))]) hx hb dX6_layLeft_34 rfl hl (by decide) rfl (fun ls hl => ?_)
  have lp10 : ∀ (n : Nat) (mo_leftOf_a35 : Nat → Int32) (x2_a35 : Int32) (mo_leftOf_o9 : Nat → Int32), f_X6_layLeft_L35 mo_nodes mo_links mo_fromOf mo_toOf n mo_leftOf_a35 x2_a35 = some mo_leftOf_o9 → (∀ (H : Heap) (locs : List Loc) (ls : Array Slot), va_P D vwCl (wdM cI cJ ad mo_pageLength mo_page mo_nodes mo_links mo_fromOf mo_toOf mo_width mo_drawn mo_seed mo_bundleOf mo_netsRead mo_sent mo_passagesEver mo_astrayEver mo_loopsEver mo_newNodes mo_newPairs mo_due mo_newOne mo_newFrom mo_newTo mo_marks mo_drawing mo_leftOf_o9 mo_wayMany mo_wayAt mo_bitsNow mo_passages mo_astray mo_loops mo_steps mo_reached mo_others mo_h) H → va_D A (wdM cI cJ ad mo_pageLength mo_page mo_nodes mo_links mo_fromOf mo_toOf mo_width mo_drawn mo_seed mo_bundleOf mo_netsRead mo_sent mo_passagesEver mo_astrayEver mo_loopsEver mo_newNodes mo_newPairs mo_due mo_newOne mo_newFrom mo_newTo mo_marks mo_drawing mo_leftOf_o9 mo_wayMany mo_wayAt mo_bitsNow mo_passages mo_astray mo_loops mo_steps mo_reached mo_others mo_h) → va_S A s.heap H locs → lv_has ls 5 [] → W p l e rm_X6_layLeft s m args below meth c H locs 0 0 Q (F0 m 123 ls [])) → ∀ (H : Heap) (locs : List Loc) (ls : Array Slot), va_P D vwCl (wdM cI cJ ad mo_pageLength mo_page mo_nodes mo_links mo_fromOf mo_toOf mo_width mo_drawn mo_seed mo_bundleOf mo_netsRead mo_sent mo_passagesEver mo_astrayEver mo_loopsEver mo_newNodes mo_newPairs mo_due mo_newOne mo_newFrom mo_newTo mo_marks mo_drawing mo_leftOf_a35 mo_wayMany mo_wayAt mo_bitsNow mo_passages mo_astray mo_loops mo_steps mo_reached mo_others mo_h) H → va_D A (wdM cI cJ ad mo_pageLength mo_page mo_nodes mo_links mo_fromOf mo_toOf mo_width mo_drawn mo_seed mo_bundleOf mo_netsRead mo_sent mo_passagesEver mo_astrayEver mo_loopsEver mo_newNodes mo_newPairs mo_due mo_newOne mo_newFrom mo_newTo mo_marks mo_drawing mo_leftOf_a35 mo_wayMany mo_wayAt mo_bitsNow mo_passages mo_astray mo_loops mo_steps mo_reached mo_others mo_h) → va_S A s.heap H locs → lv_has ls 5 [(0, .ref (ad 15)), (2, .int x2_a35)] → W p l e rm_X6_layLeft s m args below meth c H locs 0 0 Q (F0 m 35 ls []) := by
    intro n
    induction n with
    | zero =>
      intro mo_leftOf_a35 x2_a35 mo_leftOf_o9 h0
      exact oo_n h0
    | succ n ih =>
      intro mo_leftOf_a35 x2_a35 mo_leftOf_o9 hf kk H locs ls hP hD hS hl
      rw [f_X6_layLeft_L35_s] at hf
      refine lv_iload_n hx hb dX6_layLeft_35 rfl (lv_at hl 1 rfl) ?_
      refine lv_aload_n hx hb dX6_layLeft_36 rfl (lv_at hl 0 rfl) ?_
      refine va_get (ci := 6) (v := .int mo_nodes) (C := RX6) (T := TX6) (N := 34) hx hb hts hin_X6 hown hK hP 0 rfl rfl 2 (by decide) fl_82 (fun _ h9 => h9) rfl dX6_layLeft_37 ?_
      refine lv_icmp_ge (tgt := 123) hx hb dX6_layLeft_40 (by decide) (fun c11 => ?_) (fun c11 => ?_)
      · have hf := oo_t hf c11
        cases hf
        exact kk _ _ _ hP hD hS (lv_sub hl [] rfl)
      · have hf := oo_f hf c11
        refine lv_iconst (v := (0 : Int32)) hx hb dX6_layLeft_43 (by decide) ?_
        refine lv_istore_n (lv' := [(3, .int (0 : Int32)), (0, .ref (ad 15)), (2, .int x2_a35)]) hx hb dX6_layLeft_44 rfl hl (by decide) rfl (fun ls hl => ?_)
        have lp13 : ∀ (n : Nat) (mo_leftOf_a45 : Nat → Int32) (x3_a45 : Int32) (mo_leftOf_o12 : Nat → Int32), f_X6_layLeft_L45 mo_links mo_fromOf mo_toOf n mo_leftOf_a45 x3_a45 = some mo_leftOf_o12 → (∀ (H : Heap) (locs : List Loc) (ls : Array Slot), va_P D vwCl (wdM cI cJ ad mo_pageLength mo_page mo_nodes mo_links mo_fromOf mo_toOf mo_width mo_drawn mo_seed mo_bundleOf mo_netsRead mo_sent mo_passagesEver mo_astrayEver mo_loopsEver mo_newNodes mo_newPairs mo_due mo_newOne mo_newFrom mo_newTo mo_marks mo_drawing mo_leftOf_o12 mo_wayMany mo_wayAt mo_bitsNow mo_passages mo_astray mo_loops mo_steps mo_reached mo_others mo_h) H → va_D A (wdM cI cJ ad mo_pageLength mo_page mo_nodes mo_links mo_fromOf mo_toOf mo_width mo_drawn mo_seed mo_bundleOf mo_netsRead mo_sent mo_passagesEver mo_astrayEver mo_loopsEver mo_newNodes mo_newPairs mo_due mo_newOne mo_newFrom mo_newTo mo_marks mo_drawing mo_leftOf_o12 mo_wayMany mo_wayAt mo_bitsNow mo_passages mo_astray mo_loops mo_steps mo_reached mo_others mo_h) → va_S A s.heap H locs → lv_has ls 5 [(0, .ref (ad 15)), (2, .int x2_a35)] → W p l e rm_X6_layLeft s m args below meth c H locs 0 0 Q (F0 m 117 ls [])) → ∀ (H : Heap) (locs : List Loc) (ls : Array Slot), va_P D vwCl (wdM cI cJ ad mo_pageLength mo_page mo_nodes mo_links mo_fromOf mo_toOf mo_width mo_drawn mo_seed mo_bundleOf mo_netsRead mo_sent mo_passagesEver mo_astrayEver mo_loopsEver mo_newNodes mo_newPairs mo_due mo_newOne mo_newFrom mo_newTo mo_marks mo_drawing mo_leftOf_a45 mo_wayMany mo_wayAt mo_bitsNow mo_passages mo_astray mo_loops mo_steps mo_reached mo_others mo_h) H → va_D A (wdM cI cJ ad mo_pageLength mo_page mo_nodes mo_links mo_fromOf mo_toOf mo_width mo_drawn mo_seed mo_bundleOf mo_netsRead mo_sent mo_passagesEver mo_astrayEver mo_loopsEver mo_newNodes mo_newPairs mo_due mo_newOne mo_newFrom mo_newTo mo_marks mo_drawing mo_leftOf_a45 mo_wayMany mo_wayAt mo_bitsNow mo_passages mo_astray mo_loops mo_steps mo_reached mo_others mo_h) → va_S A s.heap H locs → lv_has ls 5 [(0, .ref (ad 15)), (2, .int x2_a35), (3, .int x3_a45)] → W p l e rm_X6_layLeft s m args below meth c H locs 0 0 Q (F0 m 45 ls []) := by
          intro n
          induction n with
          | zero =>
            intro mo_leftOf_a45 x3_a45 mo_leftOf_o12 h0
            exact oo_n h0
          | succ n ih =>
            intro mo_leftOf_a45 x3_a45 mo_leftOf_o12 hf kk H locs ls hP hD hS hl
            rw [f_X6_layLeft_L45_s] at hf
            refine lv_iload_n hx hb dX6_layLeft_45 rfl (lv_at hl 2 rfl) ?_
            refine lv_aload_n hx hb dX6_layLeft_46 rfl (lv_at hl 0 rfl) ?_
            refine va_get (ci := 6) (v := .int mo_links) (C := RX6) (T := TX6) (N := 34) hx hb hts hin_X6 hown hK hP 0 rfl rfl 3 (by decide) fl_85 (fun _ h9 => h9) rfl dX6_layLeft_47 ?_
            refine lv_icmp_ge (tgt := 117) hx hb dX6_layLeft_50 (by decide) (fun c14 => ?_) (fun c14 => ?_)
            · have hf := oo_t hf c14
              cases hf
              exact kk _ _ _ hP hD hS (lv_sub hl [0, 1] rfl)
            · have hf := oo_f hf c14
              refine lv_aload_n hx hb dX6_layLeft_53 rfl (lv_at hl 0 rfl) ?_
              refine va_get (ci := 6) (v := .ref (ad 23)) (C := RX6) (T := TX6) (N := 34) hx hb hts hin_X6 hown hK hP 0 rfl rfl 23 (by decide) fl_42 (fun _ h9 => h9) rfl dX6_layLeft_54 ?_
              refine lv_aload_n hx hb dX6_layLeft_57 rfl (lv_at hl 0 rfl) ?_
              refine va_get (ci := 6) (v := .ref (ad 18)) (C := RX6) (T := TX6) (N := 34) hx hb hts hin_X6 hown hK hP 0 rfl rfl 5 (by decide) fl_16 (fun _ h9 => h9) rfl dX6_layLeft_58 ?_
              refine lv_iload_n hx hb dX6_layLeft_61 rfl (lv_at hl 2 rfl) ?_
              obtain ⟨g15, hf⟩ := oo_g hf
              refine va_iald hx hb hK hP 3 0 rfl rfl g15 dX6_layLeft_62 ?_
              obtain ⟨g16, hf⟩ := oo_g hf
              refine va_iald hx hb hK hP 8 0 rfl rfl g16 dX6_layLeft_63 ?_
              refine lv_iconst (v := (1 : Int32)) hx hb dX6_layLeft_64 (by decide) ?_
              refine lv_iadd hx hb dX6_layLeft_65 ?_
              refine lv_istore (lv' := [(4, .int ((mo_leftOf_a45 ((mo_toOf (x3_a45).toNatClampNeg)).toNatClampNeg) + (1 : Int32))), (0, .ref (ad 15)), (2, .int x2_a35), (3, .int x3_a45)]) hx hb dX6_layLeft_66 hl (by decide) rfl (fun ls hl => ?_)
              refine lv_aload_n hx hb dX6_layLeft_68 rfl (lv_at hl 1 rfl) ?_
              refine va_get (ci := 6) (v := .ref (ad 23)) (C := RX6) (T := TX6) (N := 34) hx hb hts hin_X6 hown hK hP 0 rfl rfl 23 (by decide) fl_42 (fun _ h9 => h9) rfl dX6_layLeft_69 ?_
              refine lv_aload_n hx hb dX6_layLeft_72 rfl (lv_at hl 1 rfl) ?_
              refine va_get (ci := 6) (v := .ref (ad 17)) (C := RX6) (T := TX6) (N := 34) hx hb hts hin_X6 hown hK hP 0 rfl rfl 4 (by decide) fl_13 (fun _ h9 => h9) rfl dX6_layLeft_73 ?_
              refine lv_iload_n hx hb dX6_layLeft_76 rfl (lv_at hl 3 rfl) ?_
              refine va_iald hx hb hK hP 2 0 rfl rfl g15 dX6_layLeft_77 ?_
              refine lv_iload hx hb dX6_layLeft_78 (lv_at hl 0 rfl) ?_
              refine lv_aload_n hx hb dX6_layLeft_80 rfl (lv_at hl 1 rfl) ?_
              refine va_get (ci := 6) (v := .ref (ad 23)) (C := RX6) (T := TX6) (N := 34) hx hb hts hin_X6 hown hK hP 0 rfl rfl 23 (by decide) fl_42 (fun _ h9 => h9) rfl dX6_layLeft_81 ?_
              refine lv_aload_n hx hb dX6_layLeft_84 rfl (lv_at hl 1 rfl) ?_
              refine va_get (ci := 6) (v := .ref (ad 17)) (C := RX6) (T := TX6) (N := 34) hx hb hts hin_X6 hown hK hP 0 rfl rfl 4 (by decide) fl_13 (fun _ h9 => h9) rfl dX6_layLeft_85 ?_
              refine lv_iload_n hx hb dX6_layLeft_88 rfl (lv_at hl 3 rfl) ?_
              refine va_iald hx hb hK hP 2 0 rfl rfl g15 dX6_layLeft_89 ?_
              obtain ⟨g19, hf⟩ := oo_g hf
              refine va_iald hx hb hK hP 8 0 rfl rfl g19 dX6_layLeft_90 ?_
              obtain ⟨k_20, hj22, hf⟩ := oo_b hf
              try dsimp only at hf
              have kj21 : ∀ (H : Heap) (locs : List Loc) (ls : Array Slot), va_P D vwCl (wdM cI cJ ad mo_pageLength mo_page mo_nodes mo_links mo_fromOf mo_toOf mo_width mo_drawn mo_seed mo_bundleOf mo_netsRead mo_sent mo_passagesEver mo_astrayEver mo_loopsEver mo_newNodes mo_newPairs mo_due mo_newOne mo_newFrom mo_newTo mo_marks mo_drawing mo_leftOf_a45 mo_wayMany mo_wayAt mo_bitsNow mo_passages mo_astray mo_loops mo_steps mo_reached mo_others mo_h) H → va_D A (wdM cI cJ ad mo_pageLength mo_page mo_nodes mo_links mo_fromOf mo_toOf mo_width mo_drawn mo_seed mo_bundleOf mo_netsRead mo_sent mo_passagesEver mo_astrayEver mo_loopsEver mo_newNodes mo_newPairs mo_due mo_newOne mo_newFrom mo_newTo mo_marks mo_drawing mo_leftOf_a45 mo_wayMany mo_wayAt mo_bitsNow mo_passages mo_astray mo_loops mo_steps mo_reached mo_others mo_h) → va_S A s.heap H locs → lv_has ls 5 [(0, .ref (ad 15)), (2, .int x2_a35), (3, .int x3_a45)] → W p l e rm_X6_layLeft s m args below meth c H locs 0 0 Q (F0 m 110 ls [.int k_20, .int (mo_fromOf (x3_a45).toNatClampNeg), .ref (ad 23)]) := by
                intro H locs ls hP hD hS hl
                refine va_iast hx hb hK hP hD hS 8 0 rfl rfl g19 dX6_layLeft_110 (fun H locs hP hD hS => ?_)
                have hP : va_P D vwCl (wdM cI cJ ad mo_pageLength mo_page mo_nodes mo_links mo_fromOf mo_toOf mo_width mo_drawn mo_seed mo_bundleOf mo_netsRead mo_sent mo_passagesEver mo_astrayEver mo_loopsEver mo_newNodes mo_newPairs mo_due mo_newOne mo_newFrom mo_newTo mo_marks mo_drawing (upd mo_leftOf_a45 ((mo_fromOf (x3_a45).toNatClampNeg)).toNatClampNeg k_20) mo_wayMany mo_wayAt mo_bitsNow mo_passages mo_astray mo_loops mo_steps mo_reached mo_others mo_h) H := hP
                have hD : va_D A (wdM cI cJ ad mo_pageLength mo_page mo_nodes mo_links mo_fromOf mo_toOf mo_width mo_drawn mo_seed mo_bundleOf mo_netsRead mo_sent mo_passagesEver mo_astrayEver mo_loopsEver mo_newNodes mo_newPairs mo_due mo_newOne mo_newFrom mo_newTo mo_marks mo_drawing (upd mo_leftOf_a45 ((mo_fromOf (x3_a45).toNatClampNeg)).toNatClampNeg k_20) mo_wayMany mo_wayAt mo_bitsNow mo_passages mo_astray mo_loops mo_steps mo_reached mo_others mo_h) := hD
                refine lv_iinc (v := (x3_a45 + (1 : Int32))) (lv' := [(3, .int (x3_a45 + (1 : Int32))), (0, .ref (ad 15)), (2, .int x2_a35)]) hx hb dX6_layLeft_111 hl (k := 2) rfl rfl (by decide) rfl (fun ls hl => ?_)
                refine lv_goto (tgt := 45) hx hb dX6_layLeft_114 (by decide) ?_
                exact ih (upd mo_leftOf_a45 ((mo_fromOf (x3_a45).toNatClampNeg)).toNatClampNeg k_20) (x3_a45 + (1 : Int32)) _ hf kk _ _ _ hP hD hS (lv_sub hl [1, 2, 0] rfl)
              clear hf
              have hf := hj22
              clear hj22
              refine lv_icmp_ge (tgt := 99) hx hb dX6_layLeft_91 (by decide) (fun c24 => ?_) (fun c24 => ?_)
              · have hf := oo_t hf c24
                refine lv_aload_n hx hb dX6_layLeft_99 rfl (lv_at hl 1 rfl) ?_
                refine va_get (ci := 6) (v := .ref (ad 23)) (C := RX6) (T := TX6) (N := 34) hx hb hts hin_X6 hown hK hP 0 rfl rfl 23 (by decide) fl_42 (fun _ h9 => h9) rfl dX6_layLeft_100 ?_
                refine lv_aload_n hx hb dX6_layLeft_103 rfl (lv_at hl 1 rfl) ?_
                refine va_get (ci := 6) (v := .ref (ad 17)) (C := RX6) (T := TX6) (N := 34) hx hb hts hin_X6 hown hK hP 0 rfl rfl 4 (by decide) fl_13 (fun _ h9 => h9) rfl dX6_layLeft_104 ?_
                refine lv_iload_n hx hb dX6_layLeft_107 rfl (lv_at hl 3 rfl) ?_
                refine va_iald hx hb hK hP 2 0 rfl rfl g15 dX6_layLeft_108 ?_
                refine va_iald hx hb hK hP 8 0 rfl rfl g19 dX6_layLeft_109 ?_
                cases hf
                exact kj21 _ _ _ hP hD hS (lv_sub hl [1, 2, 3] rfl)
              · have hf := oo_f hf c24
                refine lv_iload hx hb dX6_layLeft_94 (lv_at hl 0 rfl) ?_
                refine lv_goto (tgt := 110) hx hb dX6_layLeft_96 (by decide) ?_
                cases hf
                exact kj21 _ _ _ hP hD hS (lv_sub hl [1, 2, 3] rfl)
        obtain ⟨mo_leftOf_o12, h27, hf⟩ := oo_b hf
        try dsimp only at hf
        refine lp13  100 mo_leftOf_a35 (0 : Int32) mo_leftOf_o12 h27 (fun H locs ls hP hD hS hl => ?_) _ _ _ hP hD hS (lv_sub hl [1, 2, 0] rfl)
        refine lv_iinc (v := (x2_a35 + (1 : Int32))) (lv' := [(2, .int (x2_a35 + (1 : Int32))), (0, .ref (ad 15))]) hx hb dX6_layLeft_117 hl (k := 1) rfl rfl (by decide) rfl (fun ls hl => ?_)
        refine lv_goto (tgt := 35) hx hb dX6_layLeft_120 (by decide) ?_
        exact ih mo_leftOf_o12 (x2_a35 + (1 : Int32)) _ hf kk _ _ _ hP hD hS (lv_sub hl [1, 0] rfl)
  obtain ⟨mo_leftOf_o9, h28, hf⟩ := oo_b hf
  try dsimp only at hf
  refine lp10  100 mo_leftOf_o1 (0 : Int32) mo_leftOf_o9 h28 (fun H locs ls hP hD hS hl => ?_) _ _ _ hP hD hS (lv_sub hl [1, 0] rfl)
  cases hf
  exact hret _ _ _ _ dX6_layLeft_123 hP hD hS
def f_X6_nextNode_L5 (mo_links : Int32) (mo_fromOf : Nat → Int32) (mo_toOf : Nat → Int32) (mo_leftOf : Nat → Int32) (x1 : Int32) : Nat → Int32 → Int32 → Option (Int32)
  | 0, _, _ => none
  | n + 1, x2_a5, x3_a5 =>
      if mo_links ≤ x3_a5 then
        some x2_a5
      else
        if x3_a5 < 0 ∨ 16 ≤ (x3_a5).toNatClampNeg then none else
        Option.bind (α := Int32) (if (mo_fromOf (x3_a5).toNatClampNeg) = x1 then
            if (mo_toOf (x3_a5).toNatClampNeg) < 0 ∨ 6 ≤ ((mo_toOf (x3_a5).toNatClampNeg)).toNatClampNeg then none else
            if x1 < 0 ∨ 6 ≤ (x1).toNatClampNeg then none else
            if ((mo_leftOf ((mo_toOf (x3_a5).toNatClampNeg)).toNatClampNeg) + (1 : Int32)) = (mo_leftOf (x1).toNatClampNeg) then
              some (1 : Int32)
            else
              some (0 : Int32)
          else
            some (0 : Int32)) fun k_5 =>
        f_X6_nextNode_L5 mo_links mo_fromOf mo_toOf mo_leftOf x1 n (if k_5 = (0 : Int32) then x2_a5 else (if x2_a5 ≤ (mo_toOf (x3_a5).toNatClampNeg) then x2_a5 else (mo_toOf (x3_a5).toNatClampNeg))) (x3_a5 + (1 : Int32))
theorem f_X6_nextNode_L5_s (mo_links : Int32) (mo_fromOf : Nat → Int32) (mo_toOf : Nat → Int32) (mo_leftOf : Nat → Int32) (x1 : Int32) (n : Nat) (x2_a5 : Int32) (x3_a5 : Int32) : f_X6_nextNode_L5 mo_links mo_fromOf mo_toOf mo_leftOf x1 (n + 1) x2_a5 x3_a5 =
      (if mo_links ≤ x3_a5 then
        some x2_a5
      else
        if x3_a5 < 0 ∨ 16 ≤ (x3_a5).toNatClampNeg then none else
        Option.bind (α := Int32) (if (mo_fromOf (x3_a5).toNatClampNeg) = x1 then
            if (mo_toOf (x3_a5).toNatClampNeg) < 0 ∨ 6 ≤ ((mo_toOf (x3_a5).toNatClampNeg)).toNatClampNeg then none else
            if x1 < 0 ∨ 6 ≤ (x1).toNatClampNeg then none else
            if ((mo_leftOf ((mo_toOf (x3_a5).toNatClampNeg)).toNatClampNeg) + (1 : Int32)) = (mo_leftOf (x1).toNatClampNeg) then
              some (1 : Int32)
            else
              some (0 : Int32)
          else
            some (0 : Int32)) fun k_5 =>
        f_X6_nextNode_L5 mo_links mo_fromOf mo_toOf mo_leftOf x1 n (if k_5 = (0 : Int32) then x2_a5 else (if x2_a5 ≤ (mo_toOf (x3_a5).toNatClampNeg) then x2_a5 else (mo_toOf (x3_a5).toNatClampNeg))) (x3_a5 + (1 : Int32))) := rfl
def f_X6_nextNode (mo_links : Int32) (mo_fromOf : Nat → Int32) (mo_toOf : Nat → Int32) (mo_leftOf : Nat → Int32) (x1 : Int32) : Option (Int32) :=
  Option.bind (f_X6_nextNode_L5 mo_links mo_fromOf mo_toOf mo_leftOf x1 100 (6 : Int32) (0 : Int32)) fun x2_o1 =>
  some x2_o1
abbrev rm_X6_nextNode : Room := { frames := 0, cells := 0, slots := 0, locals := 0 }
set_option maxHeartbeats 4000000 in
set_option maxRecDepth 100000 in
theorem c_X6_nextNode (l : Launch) (D : va_G) (cI cJ : ClassId) (ad : Nat → Nat) (sz : Nat) {mo_pageLength : Int32} {mo_page : Nat → Int32} {mo_nodes mo_links : Int32} {mo_fromOf mo_toOf : Nat → Int32} {mo_width mo_drawn mo_seed : Int32} {mo_bundleOf : Nat → Int32} {mo_netsRead mo_sent mo_passagesEver mo_astrayEver mo_loopsEver mo_newNodes mo_newPairs mo_due mo_newOne : Int32} {mo_newFrom mo_newTo : Nat → Int32} {mo_marks : Nat → Int64} {mo_drawing : Int64} {mo_leftOf : Nat → Int32} {mo_wayMany : Int32} {mo_wayAt : Nat → Int32} {mo_bitsNow : Int64} {mo_passages mo_astray mo_loops mo_steps mo_reached mo_others : Int32} {mo_h : Int64} (x1 : Int32) {o_res : Int32} (hf : f_X6_nextNode mo_links mo_fromOf mo_toOf mo_leftOf x1 = some o_res) : CtI l yX6_nextNode wsX6_nextNode rm_X6_nextNode D cI cJ [.ref (ad 15), .int x1] (wdM cI cJ ad mo_pageLength mo_page mo_nodes mo_links mo_fromOf mo_toOf mo_width mo_drawn mo_seed mo_bundleOf mo_netsRead mo_sent mo_passagesEver mo_astrayEver mo_loopsEver mo_newNodes mo_newPairs mo_due mo_newOne mo_newFrom mo_newTo mo_marks mo_drawing mo_leftOf mo_wayMany mo_wayAt mo_bitsNow mo_passages mo_astray mo_loops mo_steps mo_reached mo_others mo_h) sz o_res (wdM cI cJ ad mo_pageLength mo_page mo_nodes mo_links mo_fromOf mo_toOf mo_width mo_drawn mo_seed mo_bundleOf mo_netsRead mo_sent mo_passagesEver mo_astrayEver mo_loopsEver mo_newNodes mo_newPairs mo_due mo_newOne mo_newFrom mo_newTo mo_marks mo_drawing mo_leftOf mo_wayMany mo_wayAt mo_bitsNow mo_passages mo_astray mo_loops mo_steps mo_reached mo_others mo_h) := by
  refine ctI_of (cc := cX6_nextNode) (maxL := 5) (by decide) rfl (Nat.le_of_ble_eq_true rfl) ?_
  intro p e s m below meth c Q A hx hb hml hown hts hK hN hA hret ls hl hP hD hS
  obtain ⟨args, hargs⟩ : ∃ a : Array Value, a = [.ref (ad 15), .int x1].toArray := ⟨_, rfl⟩
  rw [← hargs] at hts hret ⊢
  have hown : s.vm.findClass RX6 = some m.cls := hown
  have hl : lv_has ls 5 [(0, .ref (ad 15)), (1, .int x1)] := hl
  have hin_X6 : ∀ w ∈ wsX60, w ∈ wsX6_nextNode := fun _ h => List.mem_cons_of_mem _ (List.mem_append_right _ h)
  have fl_13 : (Cond.fieldLink RX6 13 "FoldedWaysModel" "fromOf" "[I").before args s = true := hat hts 2 rfl
  have fl_16 : (Cond.fieldLink RX6 16 "FoldedWaysModel" "toOf" "[I").before args s = true := hat hts 4 rfl
  have fl_42 : (Cond.fieldLink RX6 42 "FoldedWaysModel" "leftOf" "[I").before args s = true := hat hts 3 rfl
  have fl_85 : (Cond.fieldLink RX6 85 "FoldedWaysModel" "links" "I").before args s = true := hat hts 1 rfl
  unfold f_X6_nextNode at hf
  refine lv_bipush (v := (6 : Int32)) hx hb dX6_nextNode_0 (by decide) ?_
  refine lv_istore_n (lv' := [(2, .int (6 : Int32)), (0, .ref (ad 15)), (1, .int x1)]) hx hb dX6_nextNode_2 rfl hl (by decide) rfl (fun ls hl => ?_)
  refine lv_iconst (v := (0 : Int32)) hx hb dX6_nextNode_3 (by decide) ?_
  refine lv_istore_n (lv' := [(3, .int (0 : Int32)), (2, .int (6 : Int32)), (0, .ref (ad 15)), (1, .int x1)]) hx hb dX6_nextNode_4 rfl hl (by decide) rfl (fun ls hl => ?_)
  have lp2 : ∀ (n : Nat) (x2_a5 : Int32) (x3_a5 : Int32) (x2_o1 : Int32), f_X6_nextNode_L5 mo_links mo_fromOf mo_toOf mo_leftOf x1 n x2_a5 x3_a5 = some x2_o1 → (∀ (H : Heap) (locs : List Loc) (ls : Array Slot), va_P D vwCl (wdM cI cJ ad mo_pageLength mo_page mo_nodes mo_links mo_fromOf mo_toOf mo_width mo_drawn mo_seed mo_bundleOf mo_netsRead mo_sent mo_passagesEver mo_astrayEver mo_loopsEver mo_newNodes mo_newPairs mo_due mo_newOne mo_newFrom mo_newTo mo_marks mo_drawing mo_leftOf mo_wayMany mo_wayAt mo_bitsNow mo_passages mo_astray mo_loops mo_steps mo_reached mo_others mo_h) H → va_D A (wdM cI cJ ad mo_pageLength mo_page mo_nodes mo_links mo_fromOf mo_toOf mo_width mo_drawn mo_seed mo_bundleOf mo_netsRead mo_sent mo_passagesEver mo_astrayEver mo_loopsEver mo_newNodes mo_newPairs mo_due mo_newOne mo_newFrom mo_newTo mo_marks mo_drawing mo_leftOf mo_wayMany mo_wayAt mo_bitsNow mo_passages mo_astray mo_loops mo_steps mo_reached mo_others mo_h) → va_S A s.heap H locs → lv_has ls 5 [(2, .int x2_o1)] → W p l e rm_X6_nextNode s m args below meth c H locs 0 0 Q (F0 m 84 ls [])) → ∀ (H : Heap) (locs : List Loc) (ls : Array Slot), va_P D vwCl (wdM cI cJ ad mo_pageLength mo_page mo_nodes mo_links mo_fromOf mo_toOf mo_width mo_drawn mo_seed mo_bundleOf mo_netsRead mo_sent mo_passagesEver mo_astrayEver mo_loopsEver mo_newNodes mo_newPairs mo_due mo_newOne mo_newFrom mo_newTo mo_marks mo_drawing mo_leftOf mo_wayMany mo_wayAt mo_bitsNow mo_passages mo_astray mo_loops mo_steps mo_reached mo_others mo_h) H → va_D A (wdM cI cJ ad mo_pageLength mo_page mo_nodes mo_links mo_fromOf mo_toOf mo_width mo_drawn mo_seed mo_bundleOf mo_netsRead mo_sent mo_passagesEver mo_astrayEver mo_loopsEver mo_newNodes mo_newPairs mo_due mo_newOne mo_newFrom mo_newTo mo_marks mo_drawing mo_leftOf mo_wayMany mo_wayAt mo_bitsNow mo_passages mo_astray mo_loops mo_steps mo_reached mo_others mo_h) → va_S A s.heap H locs → lv_has ls 5 [(0, .ref (ad 15)), (1, .int x1), (2, .int x2_a5), (3, .int x3_a5)] → W p l e rm_X6_nextNode s m args below meth c H locs 0 0 Q (F0 m 5 ls []) := by
    intro n
    induction n with
    | zero =>
      intro x2_a5 x3_a5 x2_o1 h0
      exact oo_n h0
    | succ n ih =>
      intro x2_a5 x3_a5 x2_o1 hf kk H locs ls hP hD hS hl
      rw [f_X6_nextNode_L5_s] at hf
      refine lv_iload_n hx hb dX6_nextNode_5 rfl (lv_at hl 3 rfl) ?_
      refine lv_aload_n hx hb dX6_nextNode_6 rfl (lv_at hl 0 rfl) ?_
      refine va_get (ci := 6) (v := .int mo_links) (C := RX6) (T := TX6) (N := 34) hx hb hts hin_X6 hown hK hP 0 rfl rfl 3 (by decide) fl_85 (fun _ h9 => h9) rfl dX6_nextNode_7 ?_
      refine lv_icmp_ge (tgt := 84) hx hb dX6_nextNode_10 (by decide) (fun c3 => ?_) (fun c3 => ?_)
      · have hf := oo_t hf c3
        cases hf
        exact kk _ _ _ hP hD hS (lv_sub hl [2] rfl)
      · have hf := oo_f hf c3
        refine lv_aload_n hx hb dX6_nextNode_13 rfl (lv_at hl 0 rfl) ?_
        refine va_get (ci := 6) (v := .ref (ad 17)) (C := RX6) (T := TX6) (N := 34) hx hb hts hin_X6 hown hK hP 0 rfl rfl 4 (by decide) fl_13 (fun _ h9 => h9) rfl dX6_nextNode_14 ?_
        refine lv_iload_n hx hb dX6_nextNode_17 rfl (lv_at hl 3 rfl) ?_
        obtain ⟨g4, hf⟩ := oo_g hf
        refine va_iald hx hb hK hP 2 0 rfl rfl g4 dX6_nextNode_18 ?_
        refine lv_iload_n hx hb dX6_nextNode_19 rfl (lv_at hl 1 rfl) ?_
        obtain ⟨k_5, hj7, hf⟩ := oo_b hf
        try dsimp only at hf
        have kj6 : ∀ (H : Heap) (locs : List Loc) (ls : Array Slot), va_P D vwCl (wdM cI cJ ad mo_pageLength mo_page mo_nodes mo_links mo_fromOf mo_toOf mo_width mo_drawn mo_seed mo_bundleOf mo_netsRead mo_sent mo_passagesEver mo_astrayEver mo_loopsEver mo_newNodes mo_newPairs mo_due mo_newOne mo_newFrom mo_newTo mo_marks mo_drawing mo_leftOf mo_wayMany mo_wayAt mo_bitsNow mo_passages mo_astray mo_loops mo_steps mo_reached mo_others mo_h) H → va_D A (wdM cI cJ ad mo_pageLength mo_page mo_nodes mo_links mo_fromOf mo_toOf mo_width mo_drawn mo_seed mo_bundleOf mo_netsRead mo_sent mo_passagesEver mo_astrayEver mo_loopsEver mo_newNodes mo_newPairs mo_due mo_newOne mo_newFrom mo_newTo mo_marks mo_drawing mo_leftOf mo_wayMany mo_wayAt mo_bitsNow mo_passages mo_astray mo_loops mo_steps mo_reached mo_others mo_h) → va_S A s.heap H locs → lv_has ls 5 [(0, .ref (ad 15)), (1, .int x1), (2, .int x2_a5), (3, .int x3_a5)] → W p l e rm_X6_nextNode s m args below meth c H locs 0 0 Q (F0 m 50 ls [.int k_5]) := by
          intro H locs ls hP hD hS hl
          refine lv_istore (lv' := [(4, .int k_5), (0, .ref (ad 15)), (1, .int x1), (2, .int x2_a5), (3, .int x3_a5)]) hx hb dX6_nextNode_50 hl (by decide) rfl (fun ls hl => ?_)
          refine lv_iload hx hb dX6_nextNode_52 (lv_at hl 0 rfl) ?_
          have kj9 : ∀ (k_8 : Int32), k_8 = (if k_5 = (0 : Int32) then x2_a5 else (if x2_a5 ≤ (mo_toOf (x3_a5).toNatClampNeg) then x2_a5 else (mo_toOf (x3_a5).toNatClampNeg))) → ∀ (H : Heap) (locs : List Loc) (ls : Array Slot), va_P D vwCl (wdM cI cJ ad mo_pageLength mo_page mo_nodes mo_links mo_fromOf mo_toOf mo_width mo_drawn mo_seed mo_bundleOf mo_netsRead mo_sent mo_passagesEver mo_astrayEver mo_loopsEver mo_newNodes mo_newPairs mo_due mo_newOne mo_newFrom mo_newTo mo_marks mo_drawing mo_leftOf mo_wayMany mo_wayAt mo_bitsNow mo_passages mo_astray mo_loops mo_steps mo_reached mo_others mo_h) H → va_D A (wdM cI cJ ad mo_pageLength mo_page mo_nodes mo_links mo_fromOf mo_toOf mo_width mo_drawn mo_seed mo_bundleOf mo_netsRead mo_sent mo_passagesEver mo_astrayEver mo_loopsEver mo_newNodes mo_newPairs mo_due mo_newOne mo_newFrom mo_newTo mo_marks mo_drawing mo_leftOf mo_wayMany mo_wayAt mo_bitsNow mo_passages mo_astray mo_loops mo_steps mo_reached mo_others mo_h) → va_S A s.heap H locs → lv_has ls 5 [(0, .ref (ad 15)), (1, .int x1), (3, .int x3_a5)] → W p l e rm_X6_nextNode s m args below meth c H locs 0 0 Q (F0 m 77 ls [.int k_8]) := by
            intro k_8 ek_8
            subst ek_8
            intro H locs ls hP hD hS hl
            refine lv_istore_n (lv' := [(2, .int (if k_5 = (0 : Int32) then x2_a5 else (if x2_a5 ≤ (mo_toOf (x3_a5).toNatClampNeg) then x2_a5 else (mo_toOf (x3_a5).toNatClampNeg)))), (0, .ref (ad 15)), (1, .int x1), (3, .int x3_a5)]) hx hb dX6_nextNode_77 rfl hl (by decide) rfl (fun ls hl => ?_)
            refine lv_iinc (v := (x3_a5 + (1 : Int32))) (lv' := [(3, .int (x3_a5 + (1 : Int32))), (2, .int (if k_5 = (0 : Int32) then x2_a5 else (if x2_a5 ≤ (mo_toOf (x3_a5).toNatClampNeg) then x2_a5 else (mo_toOf (x3_a5).toNatClampNeg)))), (0, .ref (ad 15)), (1, .int x1)]) hx hb dX6_nextNode_78 hl (k := 3) rfl rfl (by decide) rfl (fun ls hl => ?_)
            refine lv_goto (tgt := 5) hx hb dX6_nextNode_81 (by decide) ?_
            exact ih (if k_5 = (0 : Int32) then x2_a5 else (if x2_a5 ≤ (mo_toOf (x3_a5).toNatClampNeg) then x2_a5 else (mo_toOf (x3_a5).toNatClampNeg))) (x3_a5 + (1 : Int32)) _ hf kk _ _ _ hP hD hS (lv_sub hl [2, 3, 1, 0] rfl)
          refine lv_if_eq (tgt := 76) hx hb dX6_nextNode_54 (by decide) (fun c10 => ?_) (fun c10 => ?_)
          · refine lv_iload_n hx hb dX6_nextNode_76 rfl (lv_at hl 3 rfl) ?_
            exact kj9 x2_a5 (if_pos c10).symm _ _ _ hP hD hS (lv_sub hl [1, 2, 4] rfl)
          · refine lv_aload_n hx hb dX6_nextNode_57 rfl (lv_at hl 1 rfl) ?_
            refine va_get (ci := 6) (v := .ref (ad 18)) (C := RX6) (T := TX6) (N := 34) hx hb hts hin_X6 hown hK hP 0 rfl rfl 5 (by decide) fl_16 (fun _ h9 => h9) rfl dX6_nextNode_58 ?_
            refine lv_iload_n hx hb dX6_nextNode_61 rfl (lv_at hl 4 rfl) ?_
            refine va_iald hx hb hK hP 3 0 rfl rfl g4 dX6_nextNode_62 ?_
            refine lv_iload_n hx hb dX6_nextNode_63 rfl (lv_at hl 3 rfl) ?_
            refine lv_icmp_ge (tgt := 76) hx hb dX6_nextNode_64 (by decide) (fun c12 => ?_) (fun c12 => ?_)
            · refine lv_iload_n hx hb dX6_nextNode_76 rfl (lv_at hl 3 rfl) ?_
              exact kj9 x2_a5 ((if_neg c10).trans (if_pos c12)).symm _ _ _ hP hD hS (lv_sub hl [1, 2, 4] rfl)
            · refine lv_aload_n hx hb dX6_nextNode_67 rfl (lv_at hl 1 rfl) ?_
              refine va_get (ci := 6) (v := .ref (ad 18)) (C := RX6) (T := TX6) (N := 34) hx hb hts hin_X6 hown hK hP 0 rfl rfl 5 (by decide) fl_16 (fun _ h9 => h9) rfl dX6_nextNode_68 ?_
              refine lv_iload_n hx hb dX6_nextNode_71 rfl (lv_at hl 4 rfl) ?_
              refine va_iald hx hb hK hP 3 0 rfl rfl g4 dX6_nextNode_72 ?_
              refine lv_goto (tgt := 77) hx hb dX6_nextNode_73 (by decide) ?_
              exact kj9 (mo_toOf (x3_a5).toNatClampNeg) ((if_neg c10).trans (if_neg c12)).symm _ _ _ hP hD hS (lv_sub hl [1, 2, 4] rfl)
        clear hf
        have hf := hj7
        clear hj7
        refine lv_icmp_ne (tgt := 49) hx hb dX6_nextNode_20 (by decide) (fun c14 => ?_) (fun c14 => ?_)
        · have hf := oo_f hf c14
          refine lv_iconst (v := (0 : Int32)) hx hb dX6_nextNode_49 (by decide) ?_
          cases hf
          exact kj6 _ _ _ hP hD hS (lv_sub hl [0, 1, 2, 3] rfl)
        · have hf := oo_t hf c14
          refine lv_aload_n hx hb dX6_nextNode_23 rfl (lv_at hl 0 rfl) ?_
          refine va_get (ci := 6) (v := .ref (ad 23)) (C := RX6) (T := TX6) (N := 34) hx hb hts hin_X6 hown hK hP 0 rfl rfl 23 (by decide) fl_42 (fun _ h9 => h9) rfl dX6_nextNode_24 ?_
          refine lv_aload_n hx hb dX6_nextNode_27 rfl (lv_at hl 0 rfl) ?_
          refine va_get (ci := 6) (v := .ref (ad 18)) (C := RX6) (T := TX6) (N := 34) hx hb hts hin_X6 hown hK hP 0 rfl rfl 5 (by decide) fl_16 (fun _ h9 => h9) rfl dX6_nextNode_28 ?_
          refine lv_iload_n hx hb dX6_nextNode_31 rfl (lv_at hl 3 rfl) ?_
          refine va_iald hx hb hK hP 3 0 rfl rfl g4 dX6_nextNode_32 ?_
          obtain ⟨g16, hf⟩ := oo_g hf
          refine va_iald hx hb hK hP 8 0 rfl rfl g16 dX6_nextNode_33 ?_
          refine lv_iconst (v := (1 : Int32)) hx hb dX6_nextNode_34 (by decide) ?_
          refine lv_iadd hx hb dX6_nextNode_35 ?_
          refine lv_aload_n hx hb dX6_nextNode_36 rfl (lv_at hl 0 rfl) ?_
          refine va_get (ci := 6) (v := .ref (ad 23)) (C := RX6) (T := TX6) (N := 34) hx hb hts hin_X6 hown hK hP 0 rfl rfl 23 (by decide) fl_42 (fun _ h9 => h9) rfl dX6_nextNode_37 ?_
          refine lv_iload_n hx hb dX6_nextNode_40 rfl (lv_at hl 1 rfl) ?_
          obtain ⟨g17, hf⟩ := oo_g hf
          refine va_iald hx hb hK hP 8 0 rfl rfl g17 dX6_nextNode_41 ?_
          refine lv_icmp_ne (tgt := 49) hx hb dX6_nextNode_42 (by decide) (fun c18 => ?_) (fun c18 => ?_)
          · have hf := oo_f hf c18
            refine lv_iconst (v := (0 : Int32)) hx hb dX6_nextNode_49 (by decide) ?_
            cases hf
            exact kj6 _ _ _ hP hD hS (lv_sub hl [0, 1, 2, 3] rfl)
          · have hf := oo_t hf c18
            refine lv_iconst (v := (1 : Int32)) hx hb dX6_nextNode_45 (by decide) ?_
            refine lv_goto (tgt := 50) hx hb dX6_nextNode_46 (by decide) ?_
            cases hf
            exact kj6 _ _ _ hP hD hS (lv_sub hl [0, 1, 2, 3] rfl)
  obtain ⟨x2_o1, h19, hf⟩ := oo_b hf
  try dsimp only at hf
  refine lp2  100 (6 : Int32) (0 : Int32) x2_o1 h19 (fun H locs ls hP hD hS hl => ?_) _ _ _ hP hD hS (lv_sub hl [2, 3, 1, 0] rfl)
  refine lv_iload_n hx hb dX6_nextNode_84 rfl (lv_at hl 0 rfl) ?_
  cases hf
  exact hret _ _ _ _ dX6_nextNode_85 hP hD hS
