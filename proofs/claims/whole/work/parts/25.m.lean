def f_X6_send (mo_nodes : Int32) (mo_links : Int32) (mo_fromOf : Nat → Int32) (mo_toOf : Nat → Int32) (mo_bundleOf : Nat → Int32) (mo_sent : Int32) (mo_passagesEver : Int32) (mo_astrayEver : Int32) (mo_loopsEver : Int32) (mo_marks : Nat → Int64) (mo_leftOf : Nat → Int32) (mo_wayMany : Int32) (mo_wayAt : Nat → Int32) (mo_bitsNow : Int64) (mo_passages : Int32) (mo_astray : Int32) (mo_loops : Int32) (mo_steps : Int32) (mo_reached : Int32) (mo_others : Int32) (x1 : Int32) (x2 : Int32) (x3 : Int32) : Option (Int32 × Int32 × Int32 × Int32 × Int32 × (Nat → Int32) × Int32 × (Nat → Int32) × Int64 × Int32 × Int32 × Int32 × Int32 × Int32 × Int32) :=
  if (f_X6_isNode mo_nodes x1) = (0 : Int32) then
    some ((-1001 : Int32), mo_sent, mo_passagesEver, mo_astrayEver, mo_loopsEver, mo_leftOf, mo_wayMany, mo_wayAt, mo_bitsNow, mo_passages, mo_astray, mo_loops, mo_steps, mo_reached, mo_others)
  else
    if (f_X6_isSet mo_nodes x2) = (0 : Int32) then
      some ((-1002 : Int32), mo_sent, mo_passagesEver, mo_astrayEver, mo_loopsEver, mo_leftOf, mo_wayMany, mo_wayAt, mo_bitsNow, mo_passages, mo_astray, mo_loops, mo_steps, mo_reached, mo_others)
    else
      Option.bind (f_X6_treeOf mo_nodes mo_links mo_fromOf mo_toOf mo_leftOf mo_wayMany mo_wayAt x1 x2) fun (r6, mo_leftOf_7, mo_wayMany_8, mo_wayAt_9) =>
      Option.bind (f_X6_sendNow mo_links mo_fromOf mo_toOf mo_bundleOf mo_sent mo_passagesEver mo_astrayEver mo_loopsEver mo_marks mo_bitsNow mo_passages mo_astray mo_loops mo_steps mo_reached mo_others x1 r6 x3) fun (r12, mo_sent_13, mo_passagesEver_14, mo_astrayEver_15, mo_loopsEver_16, mo_bitsNow_17, mo_passages_18, mo_astray_19, mo_loops_20, mo_steps_21, mo_reached_22, mo_others_23) =>
      some (r12, mo_sent_13, mo_passagesEver_14, mo_astrayEver_15, mo_loopsEver_16, mo_leftOf_7, mo_wayMany_8, mo_wayAt_9, mo_bitsNow_17, mo_passages_18, mo_astray_19, mo_loops_20, mo_steps_21, mo_reached_22, mo_others_23)
abbrev rm_X6_send : Room := { frames := 6, cells := 0, slots := 0, locals := 148 }
set_option maxHeartbeats 4000000 in
set_option maxRecDepth 100000 in
theorem c_X6_send (l : Launch) (D : va_G) (cI cJ : ClassId) (ad : Nat → Nat) (sz : Nat) {mo_pageLength : Int32} {mo_page : Nat → Int32} {mo_nodes mo_links : Int32} {mo_fromOf mo_toOf : Nat → Int32} {mo_width mo_drawn mo_seed : Int32} {mo_bundleOf : Nat → Int32} {mo_netsRead mo_sent mo_passagesEver mo_astrayEver mo_loopsEver mo_newNodes mo_newPairs mo_due mo_newOne : Int32} {mo_newFrom mo_newTo : Nat → Int32} {mo_marks : Nat → Int64} {mo_drawing : Int64} {mo_leftOf : Nat → Int32} {mo_wayMany : Int32} {mo_wayAt : Nat → Int32} {mo_bitsNow : Int64} {mo_passages mo_astray mo_loops mo_steps mo_reached mo_others : Int32} {mo_h : Int64} (x1 : Int32) (x2 : Int32) (x3 : Int32) {o_res : Int32} {o_mo_sent : Int32} {o_mo_passagesEver : Int32} {o_mo_astrayEver : Int32} {o_mo_loopsEver : Int32} {o_mo_leftOf : Nat → Int32} {o_mo_wayMany : Int32} {o_mo_wayAt : Nat → Int32} {o_mo_bitsNow : Int64} {o_mo_passages : Int32} {o_mo_astray : Int32} {o_mo_loops : Int32} {o_mo_steps : Int32} {o_mo_reached : Int32} {o_mo_others : Int32} (hf : f_X6_send mo_nodes mo_links mo_fromOf mo_toOf mo_bundleOf mo_sent mo_passagesEver mo_astrayEver mo_loopsEver mo_marks mo_leftOf mo_wayMany mo_wayAt mo_bitsNow mo_passages mo_astray mo_loops mo_steps mo_reached mo_others x1 x2 x3 = some (o_res, o_mo_sent, o_mo_passagesEver, o_mo_astrayEver, o_mo_loopsEver, o_mo_leftOf, o_mo_wayMany, o_mo_wayAt, o_mo_bitsNow, o_mo_passages, o_mo_astray, o_mo_loops, o_mo_steps, o_mo_reached, o_mo_others)) : CtI l yX6_send wsX6_send rm_X6_send D cI cJ [.ref (ad 15), .int x1, .int x2, .int x3] (wdM cI cJ ad mo_pageLength mo_page mo_nodes mo_links mo_fromOf mo_toOf mo_width mo_drawn mo_seed mo_bundleOf mo_netsRead mo_sent mo_passagesEver mo_astrayEver mo_loopsEver mo_newNodes mo_newPairs mo_due mo_newOne mo_newFrom mo_newTo mo_marks mo_drawing mo_leftOf mo_wayMany mo_wayAt mo_bitsNow mo_passages mo_astray mo_loops mo_steps mo_reached mo_others mo_h) sz o_res (wdM cI cJ ad mo_pageLength mo_page mo_nodes mo_links mo_fromOf mo_toOf mo_width mo_drawn mo_seed mo_bundleOf mo_netsRead o_mo_sent o_mo_passagesEver o_mo_astrayEver o_mo_loopsEver mo_newNodes mo_newPairs mo_due mo_newOne mo_newFrom mo_newTo mo_marks mo_drawing o_mo_leftOf o_mo_wayMany o_mo_wayAt o_mo_bitsNow o_mo_passages o_mo_astray o_mo_loops o_mo_steps o_mo_reached o_mo_others mo_h) := by
  refine ctI_of (cc := cX6_send) (maxL := 4) (by decide) rfl (Nat.le_of_ble_eq_true rfl) ?_
  intro p e s m below meth c Q A hx hb hml hown hts hK hN hA hret ls hl hP hD hS
  obtain ⟨args, hargs⟩ : ∃ a : Array Value, a = [.ref (ad 15), .int x1, .int x2, .int x3].toArray := ⟨_, rfl⟩
  rw [← hargs] at hts hret ⊢
  have hown : s.vm.findClass RX6 = some m.cls := hown
  have hl : lv_has ls 4 [(0, .ref (ad 15)), (1, .int x1), (2, .int x2), (3, .int x3)] := hl
  unfold f_X6_send at hf
  refine lv_aload_n hx hb dX6_send_0 rfl (lv_at hl 0 rfl) ?_
  refine lv_iload_n hx hb dX6_send_1 rfl (lv_at hl 1 rfl) ?_
  have F : Fr D A _ (wdM cI cJ ad mo_pageLength mo_page mo_nodes mo_links mo_fromOf mo_toOf mo_width mo_drawn mo_seed mo_bundleOf mo_netsRead mo_sent mo_passagesEver mo_astrayEver mo_loopsEver mo_newNodes mo_newPairs mo_due mo_newOne mo_newFrom mo_newTo mo_marks mo_drawing mo_leftOf mo_wayMany mo_wayAt mo_bitsNow mo_passages mo_astray mo_loops mo_steps mo_reached mo_others mo_h) (wdM cI cJ ad mo_pageLength mo_page mo_nodes mo_links mo_fromOf mo_toOf mo_width mo_drawn mo_seed mo_bundleOf mo_netsRead mo_sent mo_passagesEver mo_astrayEver mo_loopsEver mo_newNodes mo_newPairs mo_due mo_newOne mo_newFrom mo_newTo mo_marks mo_drawing mo_leftOf mo_wayMany mo_wayAt mo_bitsNow mo_passages mo_astray mo_loops mo_steps mo_reached mo_others mo_h) (wdM cI cJ ad mo_pageLength mo_page mo_nodes mo_links mo_fromOf mo_toOf mo_width mo_drawn mo_seed mo_bundleOf mo_netsRead mo_sent mo_passagesEver mo_astrayEver mo_loopsEver mo_newNodes mo_newPairs mo_due mo_newOne mo_newFrom mo_newTo mo_marks mo_drawing mo_leftOf mo_wayMany mo_wayAt mo_bitsNow mo_passages mo_astray mo_loops mo_steps mo_reached mo_others mo_h) := fr_self hP hD hS hA
  refine kZ F hS (rV (q := (RX6, TX6, 34)) (As := [.int x1]) (rest := []) ⟨hx, hb, hml, hown, hts⟩ hK hN F (c_X6_isNode l D cI cJ ad _ (mo_pageLength := mo_pageLength) (mo_page := mo_page) (mo_nodes := mo_nodes) (mo_links := mo_links) (mo_fromOf := mo_fromOf) (mo_toOf := mo_toOf) (mo_width := mo_width) (mo_drawn := mo_drawn) (mo_seed := mo_seed) (mo_bundleOf := mo_bundleOf) (mo_netsRead := mo_netsRead) (mo_sent := mo_sent) (mo_passagesEver := mo_passagesEver) (mo_astrayEver := mo_astrayEver) (mo_loopsEver := mo_loopsEver) (mo_newNodes := mo_newNodes) (mo_newPairs := mo_newPairs) (mo_due := mo_due) (mo_newOne := mo_newOne) (mo_newFrom := mo_newFrom) (mo_newTo := mo_newTo) (mo_marks := mo_marks) (mo_drawing := mo_drawing) (mo_leftOf := mo_leftOf) (mo_wayMany := mo_wayMany) (mo_wayAt := mo_wayAt) (mo_bitsNow := mo_bitsNow) (mo_passages := mo_passages) (mo_astray := mo_astray) (mo_loops := mo_loops) (mo_steps := mo_steps) (mo_reached := mo_reached) (mo_others := mo_others) (mo_h := mo_h) x1 (o_res := (f_X6_isNode mo_nodes x1)) rfl) (cwV 1 hts gX6_send_X6_isNode rfl rfl rfl (by decide +kernel) ⟨Nat.le_of_ble_eq_true rfl, Nat.le_of_ble_eq_true rfl⟩) (ci := 6) rfl rfl rfl hl.1 rfl (Nat.le_of_ble_eq_true rfl) dX6_send_2 ⟨Nat.zero_le _, Nat.zero_le _⟩) (fun H locs hb1 hP hD hS => ?_)
  refine lv_if_ne (tgt := 12) hx hb dX6_send_5 (by decide) (fun c2 => ?_) (fun c2 => ?_)
  · have hf := oo_f hf c2
    refine lv_aload_n hx hb dX6_send_12 rfl (lv_at hl 0 rfl) ?_
    refine lv_iload_n hx hb dX6_send_13 rfl (lv_at hl 2 rfl) ?_
    have F : Fr D A _ (wdM cI cJ ad mo_pageLength mo_page mo_nodes mo_links mo_fromOf mo_toOf mo_width mo_drawn mo_seed mo_bundleOf mo_netsRead mo_sent mo_passagesEver mo_astrayEver mo_loopsEver mo_newNodes mo_newPairs mo_due mo_newOne mo_newFrom mo_newTo mo_marks mo_drawing mo_leftOf mo_wayMany mo_wayAt mo_bitsNow mo_passages mo_astray mo_loops mo_steps mo_reached mo_others mo_h) (wdM cI cJ ad mo_pageLength mo_page mo_nodes mo_links mo_fromOf mo_toOf mo_width mo_drawn mo_seed mo_bundleOf mo_netsRead mo_sent mo_passagesEver mo_astrayEver mo_loopsEver mo_newNodes mo_newPairs mo_due mo_newOne mo_newFrom mo_newTo mo_marks mo_drawing mo_leftOf mo_wayMany mo_wayAt mo_bitsNow mo_passages mo_astray mo_loops mo_steps mo_reached mo_others mo_h) (wdM cI cJ ad mo_pageLength mo_page mo_nodes mo_links mo_fromOf mo_toOf mo_width mo_drawn mo_seed mo_bundleOf mo_netsRead mo_sent mo_passagesEver mo_astrayEver mo_loopsEver mo_newNodes mo_newPairs mo_due mo_newOne mo_newFrom mo_newTo mo_marks mo_drawing mo_leftOf mo_wayMany mo_wayAt mo_bitsNow mo_passages mo_astray mo_loops mo_steps mo_reached mo_others mo_h) := fr_self hP hD hS hA
    refine kZ F hS (rV (q := (RX6, TX6, 34)) (As := [.int x2]) (rest := []) ⟨hx, hb, hml, hown, hts⟩ hK hN F (c_X6_isSet l D cI cJ ad _ (mo_pageLength := mo_pageLength) (mo_page := mo_page) (mo_nodes := mo_nodes) (mo_links := mo_links) (mo_fromOf := mo_fromOf) (mo_toOf := mo_toOf) (mo_width := mo_width) (mo_drawn := mo_drawn) (mo_seed := mo_seed) (mo_bundleOf := mo_bundleOf) (mo_netsRead := mo_netsRead) (mo_sent := mo_sent) (mo_passagesEver := mo_passagesEver) (mo_astrayEver := mo_astrayEver) (mo_loopsEver := mo_loopsEver) (mo_newNodes := mo_newNodes) (mo_newPairs := mo_newPairs) (mo_due := mo_due) (mo_newOne := mo_newOne) (mo_newFrom := mo_newFrom) (mo_newTo := mo_newTo) (mo_marks := mo_marks) (mo_drawing := mo_drawing) (mo_leftOf := mo_leftOf) (mo_wayMany := mo_wayMany) (mo_wayAt := mo_wayAt) (mo_bitsNow := mo_bitsNow) (mo_passages := mo_passages) (mo_astray := mo_astray) (mo_loops := mo_loops) (mo_steps := mo_steps) (mo_reached := mo_reached) (mo_others := mo_others) (mo_h := mo_h) x2 (o_res := (f_X6_isSet mo_nodes x2)) rfl) (cwV 1 hts gX6_send_X6_isSet rfl rfl rfl (by decide +kernel) ⟨Nat.le_of_ble_eq_true rfl, Nat.le_of_ble_eq_true rfl⟩) (ci := 6) rfl rfl rfl hl.1 rfl (Nat.le_of_ble_eq_true rfl) dX6_send_14 ⟨Nat.zero_le _, Nat.zero_le _⟩) (fun H locs hb3 hP hD hS => ?_)
    refine lv_if_eq (tgt := 35) hx hb dX6_send_17 (by decide) (fun c4 => ?_) (fun c4 => ?_)
    · have hf := oo_t hf c4
      refine lv_sipush (v := (-1002 : Int32)) hx hb dX6_send_35 (by decide) ?_
      cases hf
      exact hret _ _ _ _ dX6_send_38 hP hD hS
    · have hf := oo_f hf c4
      refine lv_aload_n hx hb dX6_send_20 rfl (lv_at hl 0 rfl) ?_
      refine lv_iload_n hx hb dX6_send_21 rfl (lv_at hl 1 rfl) ?_
      refine lv_aload_n hx hb dX6_send_22 rfl (lv_at hl 0 rfl) ?_
      refine lv_iload_n hx hb dX6_send_23 rfl (lv_at hl 1 rfl) ?_
      refine lv_iload_n hx hb dX6_send_24 rfl (lv_at hl 2 rfl) ?_
      obtain ⟨⟨r6, mo_leftOf_7, mo_wayMany_8, mo_wayAt_9⟩, h5, hf⟩ := oo_b hf
      try dsimp only at hf
      have F : Fr D A _ (wdM cI cJ ad mo_pageLength mo_page mo_nodes mo_links mo_fromOf mo_toOf mo_width mo_drawn mo_seed mo_bundleOf mo_netsRead mo_sent mo_passagesEver mo_astrayEver mo_loopsEver mo_newNodes mo_newPairs mo_due mo_newOne mo_newFrom mo_newTo mo_marks mo_drawing mo_leftOf mo_wayMany mo_wayAt mo_bitsNow mo_passages mo_astray mo_loops mo_steps mo_reached mo_others mo_h) (wdM cI cJ ad mo_pageLength mo_page mo_nodes mo_links mo_fromOf mo_toOf mo_width mo_drawn mo_seed mo_bundleOf mo_netsRead mo_sent mo_passagesEver mo_astrayEver mo_loopsEver mo_newNodes mo_newPairs mo_due mo_newOne mo_newFrom mo_newTo mo_marks mo_drawing mo_leftOf_7 mo_wayMany_8 mo_wayAt_9 mo_bitsNow mo_passages mo_astray mo_loops mo_steps mo_reached mo_others mo_h) (wdM cI cJ ad mo_pageLength mo_page mo_nodes mo_links mo_fromOf mo_toOf mo_width mo_drawn mo_seed mo_bundleOf mo_netsRead mo_sent mo_passagesEver mo_astrayEver mo_loopsEver mo_newNodes mo_newPairs mo_due mo_newOne mo_newFrom mo_newTo mo_marks mo_drawing mo_leftOf_7 mo_wayMany_8 mo_wayAt_9 mo_bitsNow mo_passages mo_astray mo_loops mo_steps mo_reached mo_others mo_h) := fr_self hP hD hS hA
      refine kI F hS (rV (q := (RX6, TX6, 34)) (As := [.int x1, .int x2]) (rest := [.int x1, .ref (ad 15)]) ⟨hx, hb, hml, hown, hts⟩ hK hN F (c_X6_treeOf l D cI cJ ad _ (mo_pageLength := mo_pageLength) (mo_page := mo_page) (mo_nodes := mo_nodes) (mo_links := mo_links) (mo_fromOf := mo_fromOf) (mo_toOf := mo_toOf) (mo_width := mo_width) (mo_drawn := mo_drawn) (mo_seed := mo_seed) (mo_bundleOf := mo_bundleOf) (mo_netsRead := mo_netsRead) (mo_sent := mo_sent) (mo_passagesEver := mo_passagesEver) (mo_astrayEver := mo_astrayEver) (mo_loopsEver := mo_loopsEver) (mo_newNodes := mo_newNodes) (mo_newPairs := mo_newPairs) (mo_due := mo_due) (mo_newOne := mo_newOne) (mo_newFrom := mo_newFrom) (mo_newTo := mo_newTo) (mo_marks := mo_marks) (mo_drawing := mo_drawing) (mo_leftOf := mo_leftOf) (mo_wayMany := mo_wayMany) (mo_wayAt := mo_wayAt) (mo_bitsNow := mo_bitsNow) (mo_passages := mo_passages) (mo_astray := mo_astray) (mo_loops := mo_loops) (mo_steps := mo_steps) (mo_reached := mo_reached) (mo_others := mo_others) (mo_h := mo_h) x1 x2 (o_res := r6) (o_mo_leftOf := mo_leftOf_7) (o_mo_wayMany := mo_wayMany_8) (o_mo_wayAt := mo_wayAt_9) h5) (cwV 2 hts gX6_send_X6_treeOf rfl rfl rfl (by decide +kernel) ⟨Nat.le_of_ble_eq_true rfl, Nat.le_of_ble_eq_true rfl⟩) (ci := 6) rfl rfl rfl hl.1 rfl (Nat.le_of_ble_eq_true rfl) dX6_send_25 ⟨Nat.zero_le _, Nat.zero_le _⟩) (fun H locs hP hD hS => ?_)
      refine lv_iload_n hx hb dX6_send_28 rfl (lv_at hl 3 rfl) ?_
      obtain ⟨⟨r12, mo_sent_13, mo_passagesEver_14, mo_astrayEver_15, mo_loopsEver_16, mo_bitsNow_17, mo_passages_18, mo_astray_19, mo_loops_20, mo_steps_21, mo_reached_22, mo_others_23⟩, h11, hf⟩ := oo_b hf
      try dsimp only at hf
      have F : Fr D A _ (wdM cI cJ ad mo_pageLength mo_page mo_nodes mo_links mo_fromOf mo_toOf mo_width mo_drawn mo_seed mo_bundleOf mo_netsRead mo_sent mo_passagesEver mo_astrayEver mo_loopsEver mo_newNodes mo_newPairs mo_due mo_newOne mo_newFrom mo_newTo mo_marks mo_drawing mo_leftOf_7 mo_wayMany_8 mo_wayAt_9 mo_bitsNow mo_passages mo_astray mo_loops mo_steps mo_reached mo_others mo_h) (wdM cI cJ ad mo_pageLength mo_page mo_nodes mo_links mo_fromOf mo_toOf mo_width mo_drawn mo_seed mo_bundleOf mo_netsRead mo_sent_13 mo_passagesEver_14 mo_astrayEver_15 mo_loopsEver_16 mo_newNodes mo_newPairs mo_due mo_newOne mo_newFrom mo_newTo mo_marks mo_drawing mo_leftOf_7 mo_wayMany_8 mo_wayAt_9 mo_bitsNow_17 mo_passages_18 mo_astray_19 mo_loops_20 mo_steps_21 mo_reached_22 mo_others_23 mo_h) (wdM cI cJ ad mo_pageLength mo_page mo_nodes mo_links mo_fromOf mo_toOf mo_width mo_drawn mo_seed mo_bundleOf mo_netsRead mo_sent_13 mo_passagesEver_14 mo_astrayEver_15 mo_loopsEver_16 mo_newNodes mo_newPairs mo_due mo_newOne mo_newFrom mo_newTo mo_marks mo_drawing mo_leftOf_7 mo_wayMany_8 mo_wayAt_9 mo_bitsNow_17 mo_passages_18 mo_astray_19 mo_loops_20 mo_steps_21 mo_reached_22 mo_others_23 mo_h) := fr_self hP hD hS hA
      refine kI F hS (rV (q := (RX6, TX6, 34)) (As := [.int x1, .int r6, .int x3]) (rest := []) ⟨hx, hb, hml, hown, hts⟩ hK hN F (c_X6_sendNow l D cI cJ ad _ (mo_pageLength := mo_pageLength) (mo_page := mo_page) (mo_nodes := mo_nodes) (mo_links := mo_links) (mo_fromOf := mo_fromOf) (mo_toOf := mo_toOf) (mo_width := mo_width) (mo_drawn := mo_drawn) (mo_seed := mo_seed) (mo_bundleOf := mo_bundleOf) (mo_netsRead := mo_netsRead) (mo_sent := mo_sent) (mo_passagesEver := mo_passagesEver) (mo_astrayEver := mo_astrayEver) (mo_loopsEver := mo_loopsEver) (mo_newNodes := mo_newNodes) (mo_newPairs := mo_newPairs) (mo_due := mo_due) (mo_newOne := mo_newOne) (mo_newFrom := mo_newFrom) (mo_newTo := mo_newTo) (mo_marks := mo_marks) (mo_drawing := mo_drawing) (mo_leftOf := mo_leftOf_7) (mo_wayMany := mo_wayMany_8) (mo_wayAt := mo_wayAt_9) (mo_bitsNow := mo_bitsNow) (mo_passages := mo_passages) (mo_astray := mo_astray) (mo_loops := mo_loops) (mo_steps := mo_steps) (mo_reached := mo_reached) (mo_others := mo_others) (mo_h := mo_h) x1 r6 x3 (o_res := r12) (o_mo_sent := mo_sent_13) (o_mo_passagesEver := mo_passagesEver_14) (o_mo_astrayEver := mo_astrayEver_15) (o_mo_loopsEver := mo_loopsEver_16) (o_mo_bitsNow := mo_bitsNow_17) (o_mo_passages := mo_passages_18) (o_mo_astray := mo_astray_19) (o_mo_loops := mo_loops_20) (o_mo_steps := mo_steps_21) (o_mo_reached := mo_reached_22) (o_mo_others := mo_others_23) h11) (cwV 3 hts gX6_send_X6_sendNow rfl rfl rfl (by decide +kernel) ⟨Nat.le_of_ble_eq_true rfl, Nat.le_of_ble_eq_true rfl⟩) (ci := 6) rfl rfl rfl hl.1 rfl (Nat.le_of_ble_eq_true rfl) dX6_send_29 ⟨Nat.zero_le _, Nat.zero_le _⟩) (fun H locs hP hD hS => ?_)
      refine lv_goto (tgt := 38) hx hb dX6_send_32 (by decide) ?_
      cases hf
      exact hret _ _ _ _ dX6_send_38 hP hD hS
  · have hf := oo_t hf c2
    refine lv_sipush (v := (-1001 : Int32)) hx hb dX6_send_8 (by decide) ?_
    cases hf
    exact hret _ _ _ _ dX6_send_11 hP hD hS
def f_X6_bundlesMany_L4 (mo_bundleOf : Nat → Int32) : Nat → Int32 → Int32 → Option (Int32)
  | 0, _, _ => none
  | n + 1, x1_a4, x2_a4 =>
      if (4 : Int32) ≤ x2_a4 then
        some x1_a4
      else
        if x2_a4 < 0 ∨ 4 ≤ (x2_a4).toNatClampNeg then none else
        f_X6_bundlesMany_L4 mo_bundleOf n (x1_a4 + (if (mo_bundleOf (x2_a4).toNatClampNeg) = (0 : Int32) then (0 : Int32) else (1 : Int32))) (x2_a4 + (1 : Int32))
theorem f_X6_bundlesMany_L4_s (mo_bundleOf : Nat → Int32) (n : Nat) (x1_a4 : Int32) (x2_a4 : Int32) : f_X6_bundlesMany_L4 mo_bundleOf (n + 1) x1_a4 x2_a4 =
      (if (4 : Int32) ≤ x2_a4 then
        some x1_a4
      else
        if x2_a4 < 0 ∨ 4 ≤ (x2_a4).toNatClampNeg then none else
        f_X6_bundlesMany_L4 mo_bundleOf n (x1_a4 + (if (mo_bundleOf (x2_a4).toNatClampNeg) = (0 : Int32) then (0 : Int32) else (1 : Int32))) (x2_a4 + (1 : Int32))) := rfl
def f_X6_bundlesMany (mo_bundleOf : Nat → Int32) : Option (Int32) :=
  Option.bind (f_X6_bundlesMany_L4 mo_bundleOf 100 (0 : Int32) (0 : Int32)) fun x1_o1 =>
  some x1_o1
abbrev rm_X6_bundlesMany : Room := { frames := 0, cells := 0, slots := 0, locals := 0 }
set_option maxHeartbeats 4000000 in
set_option maxRecDepth 100000 in
theorem c_X6_bundlesMany (l : Launch) (D : va_G) (cI cJ : ClassId) (ad : Nat → Nat) (sz : Nat) {mo_pageLength : Int32} {mo_page : Nat → Int32} {mo_nodes mo_links : Int32} {mo_fromOf mo_toOf : Nat → Int32} {mo_width mo_drawn mo_seed : Int32} {mo_bundleOf : Nat → Int32} {mo_netsRead mo_sent mo_passagesEver mo_astrayEver mo_loopsEver mo_newNodes mo_newPairs mo_due mo_newOne : Int32} {mo_newFrom mo_newTo : Nat → Int32} {mo_marks : Nat → Int64} {mo_drawing : Int64} {mo_leftOf : Nat → Int32} {mo_wayMany : Int32} {mo_wayAt : Nat → Int32} {mo_bitsNow : Int64} {mo_passages mo_astray mo_loops mo_steps mo_reached mo_others : Int32} {mo_h : Int64}  {o_res : Int32} (hf : f_X6_bundlesMany mo_bundleOf = some o_res) : CtI l yX6_bundlesMany wsX6_bundlesMany rm_X6_bundlesMany D cI cJ [.ref (ad 15)] (wdM cI cJ ad mo_pageLength mo_page mo_nodes mo_links mo_fromOf mo_toOf mo_width mo_drawn mo_seed mo_bundleOf mo_netsRead mo_sent mo_passagesEver mo_astrayEver mo_loopsEver mo_newNodes mo_newPairs mo_due mo_newOne mo_newFrom mo_newTo mo_marks mo_drawing mo_leftOf mo_wayMany mo_wayAt mo_bitsNow mo_passages mo_astray mo_loops mo_steps mo_reached mo_others mo_h) sz o_res (wdM cI cJ ad mo_pageLength mo_page mo_nodes mo_links mo_fromOf mo_toOf mo_width mo_drawn mo_seed mo_bundleOf mo_netsRead mo_sent mo_passagesEver mo_astrayEver mo_loopsEver mo_newNodes mo_newPairs mo_due mo_newOne mo_newFrom mo_newTo mo_marks mo_drawing mo_leftOf mo_wayMany mo_wayAt mo_bitsNow mo_passages mo_astray mo_loops mo_steps mo_reached mo_others mo_h) := by
  refine ctI_of (cc := cX6_bundlesMany) (maxL := 3) (by decide) rfl (Nat.le_of_ble_eq_true rfl) ?_
  intro p e s m below meth c Q A hx hb hml hown hts hK hN hA hret ls hl hP hD hS
  obtain ⟨args, hargs⟩ : ∃ a : Array Value, a = [.ref (ad 15)].toArray := ⟨_, rfl⟩
  rw [← hargs] at hts hret ⊢
  have hown : s.vm.findClass RX6 = some m.cls := hown
  have hl : lv_has ls 3 [(0, .ref (ad 15))] := hl
  have hin_X6 : ∀ w ∈ wsX60, w ∈ wsX6_bundlesMany := fun _ h => List.mem_cons_of_mem _ (List.mem_append_right _ h)
  have fl_29 : (Cond.fieldLink RX6 29 "FoldedWaysModel" "bundleOf" "[I").before args s = true := hat hts 1 rfl
  unfold f_X6_bundlesMany at hf
  refine lv_iconst (v := (0 : Int32)) hx hb dX6_bundlesMany_0 (by decide) ?_
  refine lv_istore_n (lv' := [(1, .int (0 : Int32)), (0, .ref (ad 15))]) hx hb dX6_bundlesMany_1 rfl hl (by decide) rfl (fun ls hl => ?_)
  refine lv_iconst (v := (0 : Int32)) hx hb dX6_bundlesMany_2 (by decide) ?_
  refine lv_istore_n (lv' := [(2, .int (0 : Int32)), (1, .int (0 : Int32)), (0, .ref (ad 15))]) hx hb dX6_bundlesMany_3 rfl hl (by decide) rfl (fun ls hl => ?_)
  have lp2 : ∀ (n : Nat) (x1_a4 : Int32) (x2_a4 : Int32) (x1_o1 : Int32), f_X6_bundlesMany_L4 mo_bundleOf n x1_a4 x2_a4 = some x1_o1 → (∀ (H : Heap) (locs : List Loc) (ls : Array Slot), va_P D vwCl (wdM cI cJ ad mo_pageLength mo_page mo_nodes mo_links mo_fromOf mo_toOf mo_width mo_drawn mo_seed mo_bundleOf mo_netsRead mo_sent mo_passagesEver mo_astrayEver mo_loopsEver mo_newNodes mo_newPairs mo_due mo_newOne mo_newFrom mo_newTo mo_marks mo_drawing mo_leftOf mo_wayMany mo_wayAt mo_bitsNow mo_passages mo_astray mo_loops mo_steps mo_reached mo_others mo_h) H → va_D A (wdM cI cJ ad mo_pageLength mo_page mo_nodes mo_links mo_fromOf mo_toOf mo_width mo_drawn mo_seed mo_bundleOf mo_netsRead mo_sent mo_passagesEver mo_astrayEver mo_loopsEver mo_newNodes mo_newPairs mo_due mo_newOne mo_newFrom mo_newTo mo_marks mo_drawing mo_leftOf mo_wayMany mo_wayAt mo_bitsNow mo_passages mo_astray mo_loops mo_steps mo_reached mo_others mo_h) → va_S A s.heap H locs → lv_has ls 3 [(1, .int x1_o1)] → W p l e rm_X6_bundlesMany s m args below meth c H locs 0 0 Q (F0 m 32 ls [])) → ∀ (H : Heap) (locs : List Loc) (ls : Array Slot), va_P D vwCl (wdM cI cJ ad mo_pageLength mo_page mo_nodes mo_links mo_fromOf mo_toOf mo_width mo_drawn mo_seed mo_bundleOf mo_netsRead mo_sent mo_passagesEver mo_astrayEver mo_loopsEver mo_newNodes mo_newPairs mo_due mo_newOne mo_newFrom mo_newTo mo_marks mo_drawing mo_leftOf mo_wayMany mo_wayAt mo_bitsNow mo_passages mo_astray mo_loops mo_steps mo_reached mo_others mo_h) H → va_D A (wdM cI cJ ad mo_pageLength mo_page mo_nodes mo_links mo_fromOf mo_toOf mo_width mo_drawn mo_seed mo_bundleOf mo_netsRead mo_sent mo_passagesEver mo_astrayEver mo_loopsEver mo_newNodes mo_newPairs mo_due mo_newOne mo_newFrom mo_newTo mo_marks mo_drawing mo_leftOf mo_wayMany mo_wayAt mo_bitsNow mo_passages mo_astray mo_loops mo_steps mo_reached mo_others mo_h) → va_S A s.heap H locs → lv_has ls 3 [(0, .ref (ad 15)), (1, .int x1_a4), (2, .int x2_a4)] → W p l e rm_X6_bundlesMany s m args below meth c H locs 0 0 Q (F0 m 4 ls []) := by
    intro n
    induction n with
    | zero =>
      intro x1_a4 x2_a4 x1_o1 h0
      exact oo_n h0
    | succ n ih =>
      intro x1_a4 x2_a4 x1_o1 hf kk H locs ls hP hD hS hl
      rw [f_X6_bundlesMany_L4_s] at hf
      refine lv_iload_n hx hb dX6_bundlesMany_4 rfl (lv_at hl 2 rfl) ?_
      refine lv_iconst (v := (4 : Int32)) hx hb dX6_bundlesMany_5 (by decide) ?_
      refine lv_icmp_ge (tgt := 32) hx hb dX6_bundlesMany_6 (by decide) (fun c3 => ?_) (fun c3 => ?_)
      · have hf := oo_t hf c3
        cases hf
        exact kk _ _ _ hP hD hS (lv_sub hl [1] rfl)
      · have hf := oo_f hf c3
        refine lv_iload_n hx hb dX6_bundlesMany_9 rfl (lv_at hl 1 rfl) ?_
        refine lv_aload_n hx hb dX6_bundlesMany_10 rfl (lv_at hl 0 rfl) ?_
        refine va_get (ci := 6) (v := .ref (ad 19)) (C := RX6) (T := TX6) (N := 34) hx hb hts hin_X6 hown hK hP 0 rfl rfl 9 (by decide) fl_29 (fun _ h9 => h9) rfl dX6_bundlesMany_11 ?_
        refine lv_iload_n hx hb dX6_bundlesMany_14 rfl (lv_at hl 2 rfl) ?_
        obtain ⟨g4, hf⟩ := oo_g hf
        refine va_iald hx hb hK hP 4 0 rfl rfl g4 dX6_bundlesMany_15 ?_
        have kj6 : ∀ (k_5 : Int32), k_5 = (if (mo_bundleOf (x2_a4).toNatClampNeg) = (0 : Int32) then (0 : Int32) else (1 : Int32)) → ∀ (H : Heap) (locs : List Loc) (ls : Array Slot), va_P D vwCl (wdM cI cJ ad mo_pageLength mo_page mo_nodes mo_links mo_fromOf mo_toOf mo_width mo_drawn mo_seed mo_bundleOf mo_netsRead mo_sent mo_passagesEver mo_astrayEver mo_loopsEver mo_newNodes mo_newPairs mo_due mo_newOne mo_newFrom mo_newTo mo_marks mo_drawing mo_leftOf mo_wayMany mo_wayAt mo_bitsNow mo_passages mo_astray mo_loops mo_steps mo_reached mo_others mo_h) H → va_D A (wdM cI cJ ad mo_pageLength mo_page mo_nodes mo_links mo_fromOf mo_toOf mo_width mo_drawn mo_seed mo_bundleOf mo_netsRead mo_sent mo_passagesEver mo_astrayEver mo_loopsEver mo_newNodes mo_newPairs mo_due mo_newOne mo_newFrom mo_newTo mo_marks mo_drawing mo_leftOf mo_wayMany mo_wayAt mo_bitsNow mo_passages mo_astray mo_loops mo_steps mo_reached mo_others mo_h) → va_S A s.heap H locs → lv_has ls 3 [(0, .ref (ad 15)), (2, .int x2_a4)] → W p l e rm_X6_bundlesMany s m args below meth c H locs 0 0 Q (F0 m 24 ls [.int k_5, .int x1_a4]) := by
          intro k_5 ek_5
          subst ek_5
          intro H locs ls hP hD hS hl
          refine lv_iadd hx hb dX6_bundlesMany_24 ?_
          refine lv_istore_n (lv' := [(1, .int (x1_a4 + (if (mo_bundleOf (x2_a4).toNatClampNeg) = (0 : Int32) then (0 : Int32) else (1 : Int32)))), (0, .ref (ad 15)), (2, .int x2_a4)]) hx hb dX6_bundlesMany_25 rfl hl (by decide) rfl (fun ls hl => ?_)
          refine lv_iinc (v := (x2_a4 + (1 : Int32))) (lv' := [(2, .int (x2_a4 + (1 : Int32))), (1, .int (x1_a4 + (if (mo_bundleOf (x2_a4).toNatClampNeg) = (0 : Int32) then (0 : Int32) else (1 : Int32)))), (0, .ref (ad 15))]) hx hb dX6_bundlesMany_26 hl (k := 2) rfl rfl (by decide) rfl (fun ls hl => ?_)
          refine lv_goto (tgt := 4) hx hb dX6_bundlesMany_29 (by decide) ?_
          exact ih (x1_a4 + (if (mo_bundleOf (x2_a4).toNatClampNeg) = (0 : Int32) then (0 : Int32) else (1 : Int32))) (x2_a4 + (1 : Int32)) _ hf kk _ _ _ hP hD hS (lv_sub hl [2, 1, 0] rfl)
        refine lv_if_eq (tgt := 23) hx hb dX6_bundlesMany_16 (by decide) (fun c7 => ?_) (fun c7 => ?_)
        · refine lv_iconst (v := (0 : Int32)) hx hb dX6_bundlesMany_23 (by decide) ?_
          exact kj6 (0 : Int32) (if_pos c7).symm _ _ _ hP hD hS (lv_sub hl [0, 2] rfl)
        · refine lv_iconst (v := (1 : Int32)) hx hb dX6_bundlesMany_19 (by decide) ?_
          refine lv_goto (tgt := 24) hx hb dX6_bundlesMany_20 (by decide) ?_
          exact kj6 (1 : Int32) (if_neg c7).symm _ _ _ hP hD hS (lv_sub hl [0, 2] rfl)
  obtain ⟨x1_o1, h8, hf⟩ := oo_b hf
  try dsimp only at hf
  refine lp2  100 (0 : Int32) (0 : Int32) x1_o1 h8 (fun H locs ls hP hD hS hl => ?_) _ _ _ hP hD hS (lv_sub hl [2, 1, 0] rfl)
  refine lv_iload_n hx hb dX6_bundlesMany_32 rfl (lv_at hl 0 rfl) ?_
  cases hf
  exact hret _ _ _ _ dX6_bundlesMany_33 hP hD hS
def f_X6_howMany (mo_pageLength : Int32) (mo_nodes : Int32) (mo_links : Int32) (mo_width : Int32) (mo_drawn : Int32) (mo_seed : Int32) (mo_bundleOf : Nat → Int32) (mo_netsRead : Int32) (mo_sent : Int32) (mo_passagesEver : Int32) (mo_astrayEver : Int32) (mo_loopsEver : Int32) (x1 : Int32) : Option (Int32) :=
  if x1 = (0 : Int32) then
    some mo_nodes
  else
    if x1 = (1 : Int32) then
      some mo_links
    else
      if x1 = (2 : Int32) then
        some mo_pageLength
      else
        if x1 = (3 : Int32) then
          some mo_width
        else
          if x1 = (4 : Int32) then
            some mo_drawn
          else
            if x1 = (5 : Int32) then
              some mo_seed
            else
              if x1 = (6 : Int32) then
                Option.bind (f_X6_bundlesMany mo_bundleOf) fun r10 =>
                some r10
              else
                if x1 = (7 : Int32) then
                  some mo_netsRead
                else
                  if x1 = (8 : Int32) then
                    some mo_sent
                  else
                    if x1 = (9 : Int32) then
                      some mo_passagesEver
                    else
                      if x1 = (10 : Int32) then
                        some mo_astrayEver
                      else
                        if x1 = (11 : Int32) then
                          some mo_loopsEver
                        else
                          some (-1002 : Int32)
abbrev rm_X6_howMany : Room := { frames := 1, cells := 0, slots := 0, locals := 22 }
set_option maxHeartbeats 4000000 in
set_option maxRecDepth 100000 in
theorem c_X6_howMany (l : Launch) (D : va_G) (cI cJ : ClassId) (ad : Nat → Nat) (sz : Nat) {mo_pageLength : Int32} {mo_page : Nat → Int32} {mo_nodes mo_links : Int32} {mo_fromOf mo_toOf : Nat → Int32} {mo_width mo_drawn mo_seed : Int32} {mo_bundleOf : Nat → Int32} {mo_netsRead mo_sent mo_passagesEver mo_astrayEver mo_loopsEver mo_newNodes mo_newPairs mo_due mo_newOne : Int32} {mo_newFrom mo_newTo : Nat → Int32} {mo_marks : Nat → Int64} {mo_drawing : Int64} {mo_leftOf : Nat → Int32} {mo_wayMany : Int32} {mo_wayAt : Nat → Int32} {mo_bitsNow : Int64} {mo_passages mo_astray mo_loops mo_steps mo_reached mo_others : Int32} {mo_h : Int64} (x1 : Int32) {o_res : Int32} (hf : f_X6_howMany mo_pageLength mo_nodes mo_links mo_width mo_drawn mo_seed mo_bundleOf mo_netsRead mo_sent mo_passagesEver mo_astrayEver mo_loopsEver x1 = some o_res) : CtI l yX6_howMany wsX6_howMany rm_X6_howMany D cI cJ [.ref (ad 15), .int x1] (wdM cI cJ ad mo_pageLength mo_page mo_nodes mo_links mo_fromOf mo_toOf mo_width mo_drawn mo_seed mo_bundleOf mo_netsRead mo_sent mo_passagesEver mo_astrayEver mo_loopsEver mo_newNodes mo_newPairs mo_due mo_newOne mo_newFrom mo_newTo mo_marks mo_drawing mo_leftOf mo_wayMany mo_wayAt mo_bitsNow mo_passages mo_astray mo_loops mo_steps mo_reached mo_others mo_h) sz o_res (wdM cI cJ ad mo_pageLength mo_page mo_nodes mo_links mo_fromOf mo_toOf mo_width mo_drawn mo_seed mo_bundleOf mo_netsRead mo_sent mo_passagesEver mo_astrayEver mo_loopsEver mo_newNodes mo_newPairs mo_due mo_newOne mo_newFrom mo_newTo mo_marks mo_drawing mo_leftOf mo_wayMany mo_wayAt mo_bitsNow mo_passages mo_astray mo_loops mo_steps mo_reached mo_others mo_h) := by
  refine ctI_of (cc := cX6_howMany) (maxL := 2) (by decide) rfl (Nat.le_of_ble_eq_true rfl) ?_
  intro p e s m below meth c Q A hx hb hml hown hts hK hN hA hret ls hl hP hD hS
  obtain ⟨args, hargs⟩ : ∃ a : Array Value, a = [.ref (ad 15), .int x1].toArray := ⟨_, rfl⟩
  rw [← hargs] at hts hret ⊢
  have hown : s.vm.findClass RX6 = some m.cls := hown
  have hl : lv_has ls 2 [(0, .ref (ad 15)), (1, .int x1)] := hl
  have hin_X6 : ∀ w ∈ wsX60, w ∈ wsX6_howMany := fun _ h => List.mem_cons_of_mem _ (List.mem_append_right _ h)
  have fl_19 : (Cond.fieldLink RX6 19 "FoldedWaysModel" "width" "I").before args s = true := hat hts 4 rfl
  have fl_23 : (Cond.fieldLink RX6 23 "FoldedWaysModel" "drawn" "I").before args s = true := hat hts 5 rfl
  have fl_26 : (Cond.fieldLink RX6 26 "FoldedWaysModel" "seed" "I").before args s = true := hat hts 6 rfl
  have fl_52 : (Cond.fieldLink RX6 52 "FoldedWaysModel" "pageLength" "I").before args s = true := hat hts 3 rfl
  have fl_82 : (Cond.fieldLink RX6 82 "FoldedWaysModel" "nodes" "I").before args s = true := hat hts 1 rfl
  have fl_85 : (Cond.fieldLink RX6 85 "FoldedWaysModel" "links" "I").before args s = true := hat hts 2 rfl
  have fl_88 : (Cond.fieldLink RX6 88 "FoldedWaysModel" "netsRead" "I").before args s = true := hat hts 7 rfl
  have fl_215 : (Cond.fieldLink RX6 215 "FoldedWaysModel" "sent" "I").before args s = true := hat hts 8 rfl
  have fl_218 : (Cond.fieldLink RX6 218 "FoldedWaysModel" "passagesEver" "I").before args s = true := hat hts 9 rfl
  have fl_221 : (Cond.fieldLink RX6 221 "FoldedWaysModel" "astrayEver" "I").before args s = true := hat hts 10 rfl
  have fl_224 : (Cond.fieldLink RX6 224 "FoldedWaysModel" "loopsEver" "I").before args s = true := hat hts 11 rfl
  unfold f_X6_howMany at hf
  refine lv_iload_n hx hb dX6_howMany_0 rfl (lv_at hl 1 rfl) ?_
  by_cases c2 : x1 = (0 : Int32)
  · have hf := oo_t hf c2
    refine lv_tableIn (tgt := 64) hx hb dX6_howMany_1 (by rw [c2]; decide) (by rw [c2]; decide) (by rw [c2]; rfl) (by decide) ?_
    refine lv_aload_n hx hb dX6_howMany_64 rfl (lv_at hl 0 rfl) ?_
    refine va_get (ci := 6) (v := .int mo_nodes) (C := RX6) (T := TX6) (N := 34) hx hb hts hin_X6 hown hK hP 0 rfl rfl 2 (by decide) fl_82 (fun _ h9 => h9) rfl dX6_howMany_65 ?_
    cases hf
    exact hret _ _ _ _ dX6_howMany_68 hP hD hS
  · have hf := oo_f hf c2
    by_cases c3 : x1 = (1 : Int32)
    · have hf := oo_t hf c3
      refine lv_tableIn (tgt := 69) hx hb dX6_howMany_1 (by rw [c3]; decide) (by rw [c3]; decide) (by rw [c3]; rfl) (by decide) ?_
      refine lv_aload_n hx hb dX6_howMany_69 rfl (lv_at hl 0 rfl) ?_
      refine va_get (ci := 6) (v := .int mo_links) (C := RX6) (T := TX6) (N := 34) hx hb hts hin_X6 hown hK hP 0 rfl rfl 3 (by decide) fl_85 (fun _ h9 => h9) rfl dX6_howMany_70 ?_
      cases hf
      exact hret _ _ _ _ dX6_howMany_73 hP hD hS
    · have hf := oo_f hf c3
      by_cases c4 : x1 = (2 : Int32)
      · have hf := oo_t hf c4
        refine lv_tableIn (tgt := 74) hx hb dX6_howMany_1 (by rw [c4]; decide) (by rw [c4]; decide) (by rw [c4]; rfl) (by decide) ?_
        refine lv_aload_n hx hb dX6_howMany_74 rfl (lv_at hl 0 rfl) ?_
        refine va_get (ci := 6) (v := .int mo_pageLength) (C := RX6) (T := TX6) (N := 34) hx hb hts hin_X6 hown hK hP 0 rfl rfl 0 (by decide) fl_52 (fun _ h9 => h9) rfl dX6_howMany_75 ?_
        cases hf
        exact hret _ _ _ _ dX6_howMany_78 hP hD hS
      · have hf := oo_f hf c4
        by_cases c5 : x1 = (3 : Int32)
        · have hf := oo_t hf c5
          refine lv_tableIn (tgt := 79) hx hb dX6_howMany_1 (by rw [c5]; decide) (by rw [c5]; decide) (by rw [c5]; rfl) (by decide) ?_
          refine lv_aload_n hx hb dX6_howMany_79 rfl (lv_at hl 0 rfl) ?_
          refine va_get (ci := 6) (v := .int mo_width) (C := RX6) (T := TX6) (N := 34) hx hb hts hin_X6 hown hK hP 0 rfl rfl 6 (by decide) fl_19 (fun _ h9 => h9) rfl dX6_howMany_80 ?_
          cases hf
          exact hret _ _ _ _ dX6_howMany_83 hP hD hS
        · have hf := oo_f hf c5
          by_cases c6 : x1 = (4 : Int32)
          · have hf := oo_t hf c6
            refine lv_tableIn (tgt := 84) hx hb dX6_howMany_1 (by rw [c6]; decide) (by rw [c6]; decide) (by rw [c6]; rfl) (by decide) ?_
            refine lv_aload_n hx hb dX6_howMany_84 rfl (lv_at hl 0 rfl) ?_
            refine va_get (ci := 6) (v := .int mo_drawn) (C := RX6) (T := TX6) (N := 34) hx hb hts hin_X6 hown hK hP 0 rfl rfl 7 (by decide) fl_23 (fun _ h9 => h9) rfl dX6_howMany_85 ?_
            cases hf
            exact hret _ _ _ _ dX6_howMany_88 hP hD hS
          · have hf := oo_f hf c6
            by_cases c7 : x1 = (5 : Int32)
            · have hf := oo_t hf c7
              refine lv_tableIn (tgt := 89) hx hb dX6_howMany_1 (by rw [c7]; decide) (by rw [c7]; decide) (by rw [c7]; rfl) (by decide) ?_
              refine lv_aload_n hx hb dX6_howMany_89 rfl (lv_at hl 0 rfl) ?_
              refine va_get (ci := 6) (v := .int mo_seed) (C := RX6) (T := TX6) (N := 34) hx hb hts hin_X6 hown hK hP 0 rfl rfl 8 (by decide) fl_26 (fun _ h9 => h9) rfl dX6_howMany_90 ?_
              cases hf
              exact hret _ _ _ _ dX6_howMany_93 hP hD hS
            · have hf := oo_f hf c7
              by_cases c8 : x1 = (6 : Int32)
              · have hf := oo_t hf c8
                refine lv_tableIn (tgt := 94) hx hb dX6_howMany_1 (by rw [c8]; decide) (by rw [c8]; decide) (by rw [c8]; rfl) (by decide) ?_
                refine lv_aload_n hx hb dX6_howMany_94 rfl (lv_at hl 0 rfl) ?_
                obtain ⟨r10, h9, hf⟩ := oo_b hf
                try dsimp only at hf
                have F : Fr D A _ (wdM cI cJ ad mo_pageLength mo_page mo_nodes mo_links mo_fromOf mo_toOf mo_width mo_drawn mo_seed mo_bundleOf mo_netsRead mo_sent mo_passagesEver mo_astrayEver mo_loopsEver mo_newNodes mo_newPairs mo_due mo_newOne mo_newFrom mo_newTo mo_marks mo_drawing mo_leftOf mo_wayMany mo_wayAt mo_bitsNow mo_passages mo_astray mo_loops mo_steps mo_reached mo_others mo_h) (wdM cI cJ ad mo_pageLength mo_page mo_nodes mo_links mo_fromOf mo_toOf mo_width mo_drawn mo_seed mo_bundleOf mo_netsRead mo_sent mo_passagesEver mo_astrayEver mo_loopsEver mo_newNodes mo_newPairs mo_due mo_newOne mo_newFrom mo_newTo mo_marks mo_drawing mo_leftOf mo_wayMany mo_wayAt mo_bitsNow mo_passages mo_astray mo_loops mo_steps mo_reached mo_others mo_h) (wdM cI cJ ad mo_pageLength mo_page mo_nodes mo_links mo_fromOf mo_toOf mo_width mo_drawn mo_seed mo_bundleOf mo_netsRead mo_sent mo_passagesEver mo_astrayEver mo_loopsEver mo_newNodes mo_newPairs mo_due mo_newOne mo_newFrom mo_newTo mo_marks mo_drawing mo_leftOf mo_wayMany mo_wayAt mo_bitsNow mo_passages mo_astray mo_loops mo_steps mo_reached mo_others mo_h) := fr_self hP hD hS hA
                refine kI F hS (rV (q := (RX6, TX6, 34)) (As := []) (rest := []) ⟨hx, hb, hml, hown, hts⟩ hK hN F (c_X6_bundlesMany l D cI cJ ad _ (mo_pageLength := mo_pageLength) (mo_page := mo_page) (mo_nodes := mo_nodes) (mo_links := mo_links) (mo_fromOf := mo_fromOf) (mo_toOf := mo_toOf) (mo_width := mo_width) (mo_drawn := mo_drawn) (mo_seed := mo_seed) (mo_bundleOf := mo_bundleOf) (mo_netsRead := mo_netsRead) (mo_sent := mo_sent) (mo_passagesEver := mo_passagesEver) (mo_astrayEver := mo_astrayEver) (mo_loopsEver := mo_loopsEver) (mo_newNodes := mo_newNodes) (mo_newPairs := mo_newPairs) (mo_due := mo_due) (mo_newOne := mo_newOne) (mo_newFrom := mo_newFrom) (mo_newTo := mo_newTo) (mo_marks := mo_marks) (mo_drawing := mo_drawing) (mo_leftOf := mo_leftOf) (mo_wayMany := mo_wayMany) (mo_wayAt := mo_wayAt) (mo_bitsNow := mo_bitsNow) (mo_passages := mo_passages) (mo_astray := mo_astray) (mo_loops := mo_loops) (mo_steps := mo_steps) (mo_reached := mo_reached) (mo_others := mo_others) (mo_h := mo_h)  (o_res := r10) h9) (cwV 0 hts gX6_howMany_X6_bundlesMany rfl rfl rfl (by decide +kernel) ⟨Nat.le_of_ble_eq_true rfl, Nat.le_of_ble_eq_true rfl⟩) (ci := 6) rfl rfl rfl hl.1 rfl (Nat.le_of_ble_eq_true rfl) dX6_howMany_95 ⟨Nat.zero_le _, Nat.zero_le _⟩) (fun H locs hP hD hS => ?_)
                cases hf
                exact hret _ _ _ _ dX6_howMany_98 hP hD hS
              · have hf := oo_f hf c8
                by_cases c12 : x1 = (7 : Int32)
                · have hf := oo_t hf c12
                  refine lv_tableIn (tgt := 99) hx hb dX6_howMany_1 (by rw [c12]; decide) (by rw [c12]; decide) (by rw [c12]; rfl) (by decide) ?_
                  refine lv_aload_n hx hb dX6_howMany_99 rfl (lv_at hl 0 rfl) ?_
                  refine va_get (ci := 6) (v := .int mo_netsRead) (C := RX6) (T := TX6) (N := 34) hx hb hts hin_X6 hown hK hP 0 rfl rfl 10 (by decide) fl_88 (fun _ h9 => h9) rfl dX6_howMany_100 ?_
                  cases hf
                  exact hret _ _ _ _ dX6_howMany_103 hP hD hS
                · have hf := oo_f hf c12
                  by_cases c13 : x1 = (8 : Int32)
                  · have hf := oo_t hf c13
                    refine lv_tableIn (tgt := 104) hx hb dX6_howMany_1 (by rw [c13]; decide) (by rw [c13]; decide) (by rw [c13]; rfl) (by decide) ?_
                    refine lv_aload_n hx hb dX6_howMany_104 rfl (lv_at hl 0 rfl) ?_
                    refine va_get (ci := 6) (v := .int mo_sent) (C := RX6) (T := TX6) (N := 34) hx hb hts hin_X6 hown hK hP 0 rfl rfl 11 (by decide) fl_215 (fun _ h9 => h9) rfl dX6_howMany_105 ?_
                    cases hf
                    exact hret _ _ _ _ dX6_howMany_108 hP hD hS
                  · have hf := oo_f hf c13
                    by_cases c14 : x1 = (9 : Int32)
                    · have hf := oo_t hf c14
                      refine lv_tableIn (tgt := 109) hx hb dX6_howMany_1 (by rw [c14]; decide) (by rw [c14]; decide) (by rw [c14]; rfl) (by decide) ?_
                      refine lv_aload_n hx hb dX6_howMany_109 rfl (lv_at hl 0 rfl) ?_
                      refine va_get (ci := 6) (v := .int mo_passagesEver) (C := RX6) (T := TX6) (N := 34) hx hb hts hin_X6 hown hK hP 0 rfl rfl 12 (by decide) fl_218 (fun _ h9 => h9) rfl dX6_howMany_110 ?_
                      cases hf
                      exact hret _ _ _ _ dX6_howMany_113 hP hD hS
                    · have hf := oo_f hf c14
                      by_cases c15 : x1 = (10 : Int32)
                      · have hf := oo_t hf c15
                        refine lv_tableIn (tgt := 114) hx hb dX6_howMany_1 (by rw [c15]; decide) (by rw [c15]; decide) (by rw [c15]; rfl) (by decide) ?_
                        refine lv_aload_n hx hb dX6_howMany_114 rfl (lv_at hl 0 rfl) ?_
                        refine va_get (ci := 6) (v := .int mo_astrayEver) (C := RX6) (T := TX6) (N := 34) hx hb hts hin_X6 hown hK hP 0 rfl rfl 13 (by decide) fl_221 (fun _ h9 => h9) rfl dX6_howMany_115 ?_
                        cases hf
                        exact hret _ _ _ _ dX6_howMany_118 hP hD hS
                      · have hf := oo_f hf c15
                        by_cases c16 : x1 = (11 : Int32)
                        · have hf := oo_t hf c16
                          refine lv_tableIn (tgt := 119) hx hb dX6_howMany_1 (by rw [c16]; decide) (by rw [c16]; decide) (by rw [c16]; rfl) (by decide) ?_
                          refine lv_aload_n hx hb dX6_howMany_119 rfl (lv_at hl 0 rfl) ?_
                          refine va_get (ci := 6) (v := .int mo_loopsEver) (C := RX6) (T := TX6) (N := 34) hx hb hts hin_X6 hown hK hP 0 rfl rfl 14 (by decide) fl_224 (fun _ h9 => h9) rfl dX6_howMany_120 ?_
                          cases hf
                          exact hret _ _ _ _ dX6_howMany_123 hP hD hS
                        · have hf := oo_f hf c16
                          refine lv_tableOut (tgt := 124) hx hb dX6_howMany_1 (tblo_0_12 c2 c3 c4 c5 c6 c7 c8 c12 c13 c14 c15 c16) (by decide) ?_
                          refine lv_sipush (v := (-1002 : Int32)) hx hb dX6_howMany_124 (by decide) ?_
                          cases hf
                          exact hret _ _ _ _ dX6_howMany_127 hP hD hS
def f_X6_count (mo_pageLength : Int32) (mo_nodes : Int32) (mo_links : Int32) (mo_width : Int32) (mo_drawn : Int32) (mo_seed : Int32) (mo_bundleOf : Nat → Int32) (mo_netsRead : Int32) (mo_sent : Int32) (mo_passagesEver : Int32) (mo_astrayEver : Int32) (mo_loopsEver : Int32) (x1 : Int32) : Option (Int32) :=
  Option.bind (f_X6_howMany mo_pageLength mo_nodes mo_links mo_width mo_drawn mo_seed mo_bundleOf mo_netsRead mo_sent mo_passagesEver mo_astrayEver mo_loopsEver x1) fun r2 =>
  some r2
abbrev rm_X6_count : Room := { frames := 2, cells := 0, slots := 0, locals := 43 }
set_option maxHeartbeats 4000000 in
set_option maxRecDepth 100000 in
theorem c_X6_count (l : Launch) (D : va_G) (cI cJ : ClassId) (ad : Nat → Nat) (sz : Nat) {mo_pageLength : Int32} {mo_page : Nat → Int32} {mo_nodes mo_links : Int32} {mo_fromOf mo_toOf : Nat → Int32} {mo_width mo_drawn mo_seed : Int32} {mo_bundleOf : Nat → Int32} {mo_netsRead mo_sent mo_passagesEver mo_astrayEver mo_loopsEver mo_newNodes mo_newPairs mo_due mo_newOne : Int32} {mo_newFrom mo_newTo : Nat → Int32} {mo_marks : Nat → Int64} {mo_drawing : Int64} {mo_leftOf : Nat → Int32} {mo_wayMany : Int32} {mo_wayAt : Nat → Int32} {mo_bitsNow : Int64} {mo_passages mo_astray mo_loops mo_steps mo_reached mo_others : Int32} {mo_h : Int64} (x1 : Int32) {o_res : Int32} (hf : f_X6_count mo_pageLength mo_nodes mo_links mo_width mo_drawn mo_seed mo_bundleOf mo_netsRead mo_sent mo_passagesEver mo_astrayEver mo_loopsEver x1 = some o_res) : CtI l yX6_count wsX6_count rm_X6_count D cI cJ [.ref (ad 15), .int x1] (wdM cI cJ ad mo_pageLength mo_page mo_nodes mo_links mo_fromOf mo_toOf mo_width mo_drawn mo_seed mo_bundleOf mo_netsRead mo_sent mo_passagesEver mo_astrayEver mo_loopsEver mo_newNodes mo_newPairs mo_due mo_newOne mo_newFrom mo_newTo mo_marks mo_drawing mo_leftOf mo_wayMany mo_wayAt mo_bitsNow mo_passages mo_astray mo_loops mo_steps mo_reached mo_others mo_h) sz o_res (wdM cI cJ ad mo_pageLength mo_page mo_nodes mo_links mo_fromOf mo_toOf mo_width mo_drawn mo_seed mo_bundleOf mo_netsRead mo_sent mo_passagesEver mo_astrayEver mo_loopsEver mo_newNodes mo_newPairs mo_due mo_newOne mo_newFrom mo_newTo mo_marks mo_drawing mo_leftOf mo_wayMany mo_wayAt mo_bitsNow mo_passages mo_astray mo_loops mo_steps mo_reached mo_others mo_h) := by
  refine ctI_of (cc := cX6_count) (maxL := 2) (by decide) rfl (Nat.le_of_ble_eq_true rfl) ?_
  intro p e s m below meth c Q A hx hb hml hown hts hK hN hA hret ls hl hP hD hS
  obtain ⟨args, hargs⟩ : ∃ a : Array Value, a = [.ref (ad 15), .int x1].toArray := ⟨_, rfl⟩
  rw [← hargs] at hts hret ⊢
  have hown : s.vm.findClass RX6 = some m.cls := hown
  have hl : lv_has ls 2 [(0, .ref (ad 15)), (1, .int x1)] := hl
  unfold f_X6_count at hf
  refine lv_aload_n hx hb dX6_count_0 rfl (lv_at hl 0 rfl) ?_
  refine lv_iload_n hx hb dX6_count_1 rfl (lv_at hl 1 rfl) ?_
  obtain ⟨r2, h1, hf⟩ := oo_b hf
  try dsimp only at hf
  have F : Fr D A _ (wdM cI cJ ad mo_pageLength mo_page mo_nodes mo_links mo_fromOf mo_toOf mo_width mo_drawn mo_seed mo_bundleOf mo_netsRead mo_sent mo_passagesEver mo_astrayEver mo_loopsEver mo_newNodes mo_newPairs mo_due mo_newOne mo_newFrom mo_newTo mo_marks mo_drawing mo_leftOf mo_wayMany mo_wayAt mo_bitsNow mo_passages mo_astray mo_loops mo_steps mo_reached mo_others mo_h) (wdM cI cJ ad mo_pageLength mo_page mo_nodes mo_links mo_fromOf mo_toOf mo_width mo_drawn mo_seed mo_bundleOf mo_netsRead mo_sent mo_passagesEver mo_astrayEver mo_loopsEver mo_newNodes mo_newPairs mo_due mo_newOne mo_newFrom mo_newTo mo_marks mo_drawing mo_leftOf mo_wayMany mo_wayAt mo_bitsNow mo_passages mo_astray mo_loops mo_steps mo_reached mo_others mo_h) (wdM cI cJ ad mo_pageLength mo_page mo_nodes mo_links mo_fromOf mo_toOf mo_width mo_drawn mo_seed mo_bundleOf mo_netsRead mo_sent mo_passagesEver mo_astrayEver mo_loopsEver mo_newNodes mo_newPairs mo_due mo_newOne mo_newFrom mo_newTo mo_marks mo_drawing mo_leftOf mo_wayMany mo_wayAt mo_bitsNow mo_passages mo_astray mo_loops mo_steps mo_reached mo_others mo_h) := fr_self hP hD hS hA
  refine kI F hS (rV (q := (RX6, TX6, 34)) (As := [.int x1]) (rest := []) ⟨hx, hb, hml, hown, hts⟩ hK hN F (c_X6_howMany l D cI cJ ad _ (mo_pageLength := mo_pageLength) (mo_page := mo_page) (mo_nodes := mo_nodes) (mo_links := mo_links) (mo_fromOf := mo_fromOf) (mo_toOf := mo_toOf) (mo_width := mo_width) (mo_drawn := mo_drawn) (mo_seed := mo_seed) (mo_bundleOf := mo_bundleOf) (mo_netsRead := mo_netsRead) (mo_sent := mo_sent) (mo_passagesEver := mo_passagesEver) (mo_astrayEver := mo_astrayEver) (mo_loopsEver := mo_loopsEver) (mo_newNodes := mo_newNodes) (mo_newPairs := mo_newPairs) (mo_due := mo_due) (mo_newOne := mo_newOne) (mo_newFrom := mo_newFrom) (mo_newTo := mo_newTo) (mo_marks := mo_marks) (mo_drawing := mo_drawing) (mo_leftOf := mo_leftOf) (mo_wayMany := mo_wayMany) (mo_wayAt := mo_wayAt) (mo_bitsNow := mo_bitsNow) (mo_passages := mo_passages) (mo_astray := mo_astray) (mo_loops := mo_loops) (mo_steps := mo_steps) (mo_reached := mo_reached) (mo_others := mo_others) (mo_h := mo_h) x1 (o_res := r2) h1) (cwV 1 hts gX6_count_X6_howMany rfl rfl rfl (by decide +kernel) ⟨Nat.le_of_ble_eq_true rfl, Nat.le_of_ble_eq_true rfl⟩) (ci := 6) rfl rfl rfl hl.1 rfl (Nat.le_of_ble_eq_true rfl) dX6_count_2 ⟨Nat.zero_le _, Nat.zero_le _⟩) (fun H locs hP hD hS => ?_)
  cases hf
  exact hret _ _ _ _ dX6_count_5 hP hD hS
def f_X6_mix (mo_h : Int64) (x1 : Int64) : Int64 :=
  (((31 : Int64) * mo_h) + x1)
abbrev rm_X6_mix : Room := { frames := 0, cells := 0, slots := 0, locals := 0 }
set_option maxHeartbeats 4000000 in
set_option maxRecDepth 100000 in
theorem c_X6_mix (l : Launch) (D : va_G) (cI cJ : ClassId) (ad : Nat → Nat) (sz : Nat) {mo_pageLength : Int32} {mo_page : Nat → Int32} {mo_nodes mo_links : Int32} {mo_fromOf mo_toOf : Nat → Int32} {mo_width mo_drawn mo_seed : Int32} {mo_bundleOf : Nat → Int32} {mo_netsRead mo_sent mo_passagesEver mo_astrayEver mo_loopsEver mo_newNodes mo_newPairs mo_due mo_newOne : Int32} {mo_newFrom mo_newTo : Nat → Int32} {mo_marks : Nat → Int64} {mo_drawing : Int64} {mo_leftOf : Nat → Int32} {mo_wayMany : Int32} {mo_wayAt : Nat → Int32} {mo_bitsNow : Int64} {mo_passages mo_astray mo_loops mo_steps mo_reached mo_others : Int32} {mo_h : Int64} (x1 : Int64) {o_mo_h : Int64} (hf : f_X6_mix mo_h x1 = o_mo_h) : CtV l yX6_mix wsX6_mix rm_X6_mix D cI cJ [.ref (ad 15), .long x1] (wdM cI cJ ad mo_pageLength mo_page mo_nodes mo_links mo_fromOf mo_toOf mo_width mo_drawn mo_seed mo_bundleOf mo_netsRead mo_sent mo_passagesEver mo_astrayEver mo_loopsEver mo_newNodes mo_newPairs mo_due mo_newOne mo_newFrom mo_newTo mo_marks mo_drawing mo_leftOf mo_wayMany mo_wayAt mo_bitsNow mo_passages mo_astray mo_loops mo_steps mo_reached mo_others mo_h) sz (wdM cI cJ ad mo_pageLength mo_page mo_nodes mo_links mo_fromOf mo_toOf mo_width mo_drawn mo_seed mo_bundleOf mo_netsRead mo_sent mo_passagesEver mo_astrayEver mo_loopsEver mo_newNodes mo_newPairs mo_due mo_newOne mo_newFrom mo_newTo mo_marks mo_drawing mo_leftOf mo_wayMany mo_wayAt mo_bitsNow mo_passages mo_astray mo_loops mo_steps mo_reached mo_others o_mo_h) := by
  refine ctV_of (cc := cX6_mix) (maxL := 3) (by decide) rfl (Nat.le_of_ble_eq_true rfl) ?_
  intro p e s m below meth c Q A hx hb hml hown hts hK hN hA hret ls hl hP hD hS
  obtain ⟨args, hargs⟩ : ∃ a : Array Value, a = [.ref (ad 15), .long x1].toArray := ⟨_, rfl⟩
  rw [← hargs] at hts hret ⊢
  have hown : s.vm.findClass RX6 = some m.cls := hown
  have hl : lv_has ls 3 [(0, .ref (ad 15)), (1, .long x1)] := hl
  have hin_X6 : ∀ w ∈ wsX60, w ∈ wsX6_mix := fun _ h => List.mem_cons_of_mem _ (List.mem_append_right _ h)
  have fl_238 : (Cond.fieldLink RX6 238 "FoldedWaysModel" "h" "J").before args s = true := hat hts 2 rfl
  unfold f_X6_mix at hf
  refine lv_aload_n hx hb dX6_mix_0 rfl (lv_at hl 0 rfl) ?_
  refine lv_ldc2 (v := (31 : Int64)) hx hb hown (hat hts 1 rfl) dX6_mix_1 ?_
  refine lv_aload_n hx hb dX6_mix_4 rfl (lv_at hl 0 rfl) ?_
  refine va_get (ci := 6) (v := .long mo_h) (C := RX6) (T := TX6) (N := 34) hx hb hts hin_X6 hown hK hP 0 rfl rfl 33 (by decide) fl_238 (fun _ h9 => h9) rfl dX6_mix_5 ?_
  refine lv_lmul hx hb dX6_mix_8 ?_
  refine lv_lload_n hx hb dX6_mix_9 rfl (lv_at hl 1 rfl) ?_
  refine lv_ladd hx hb dX6_mix_10 ?_
  refine va_put (ci := 6) (v := .long (((31 : Int64) * mo_h) + x1)) (ty := .long) (C := RX6) (T := TX6) (N := 34) hx hb hts hin_X6 tyX6 tyX6_ok nmX6 hown hK hP hD hS 0 rfl rfl 33 (by decide) fl_238 (fun _ h9 => h9) rfl (by decide +kernel) rfl rfl (Nat.le_of_ble_eq_true rfl) dX6_mix_11 (fun H locs hP hD hS => ?_)
  have hP : va_P D vwCl (wdM cI cJ ad mo_pageLength mo_page mo_nodes mo_links mo_fromOf mo_toOf mo_width mo_drawn mo_seed mo_bundleOf mo_netsRead mo_sent mo_passagesEver mo_astrayEver mo_loopsEver mo_newNodes mo_newPairs mo_due mo_newOne mo_newFrom mo_newTo mo_marks mo_drawing mo_leftOf mo_wayMany mo_wayAt mo_bitsNow mo_passages mo_astray mo_loops mo_steps mo_reached mo_others (((31 : Int64) * mo_h) + x1)) H := hP
  have hD : va_D A (wdM cI cJ ad mo_pageLength mo_page mo_nodes mo_links mo_fromOf mo_toOf mo_width mo_drawn mo_seed mo_bundleOf mo_netsRead mo_sent mo_passagesEver mo_astrayEver mo_loopsEver mo_newNodes mo_newPairs mo_due mo_newOne mo_newFrom mo_newTo mo_marks mo_drawing mo_leftOf mo_wayMany mo_wayAt mo_bitsNow mo_passages mo_astray mo_loops mo_steps mo_reached mo_others (((31 : Int64) * mo_h) + x1)) := hD
  cases hf
  exact hret _ _ _ _ dX6_mix_14 hP hD hS
def f_X6_mixNode_L38 (mo_width : Int32) (mo_drawn : Int32) (mo_bitsNow_19 : Int64) (mo_passages_20 : Int32) (mo_astray_21 : Int32) (mo_loops_22 : Int32) (mo_steps_23 : Int32) (mo_reached_24 : Int32) (mo_others_25 : Int32) : Nat → Int64 → Int32 → Option (Int64)
  | 0, _, _ => none
  | n + 1, mo_h_a38, x4_a38 =>
      if (9 : Int32) ≤ x4_a38 then
        some mo_h_a38
      else
        Option.bind (f_X6_spreadNow mo_width mo_drawn mo_bitsNow_19 mo_passages_20 mo_astray_21 mo_loops_22 mo_steps_23 mo_reached_24 mo_others_25 x4_a38) fun r31 =>
        f_X6_mixNode_L38 mo_width mo_drawn mo_bitsNow_19 mo_passages_20 mo_astray_21 mo_loops_22 mo_steps_23 mo_reached_24 mo_others_25 n (f_X6_mix mo_h_a38 ((r31).toInt64)) (x4_a38 + (1 : Int32))
theorem f_X6_mixNode_L38_s (mo_width : Int32) (mo_drawn : Int32) (mo_bitsNow_19 : Int64) (mo_passages_20 : Int32) (mo_astray_21 : Int32) (mo_loops_22 : Int32) (mo_steps_23 : Int32) (mo_reached_24 : Int32) (mo_others_25 : Int32) (n : Nat) (mo_h_a38 : Int64) (x4_a38 : Int32) : f_X6_mixNode_L38 mo_width mo_drawn mo_bitsNow_19 mo_passages_20 mo_astray_21 mo_loops_22 mo_steps_23 mo_reached_24 mo_others_25 (n + 1) mo_h_a38 x4_a38 =
      (if (9 : Int32) ≤ x4_a38 then
        some mo_h_a38
      else
        Option.bind (f_X6_spreadNow mo_width mo_drawn mo_bitsNow_19 mo_passages_20 mo_astray_21 mo_loops_22 mo_steps_23 mo_reached_24 mo_others_25 x4_a38) fun r31 =>
        f_X6_mixNode_L38 mo_width mo_drawn mo_bitsNow_19 mo_passages_20 mo_astray_21 mo_loops_22 mo_steps_23 mo_reached_24 mo_others_25 n (f_X6_mix mo_h_a38 ((r31).toInt64)) (x4_a38 + (1 : Int32))) := rfl
def f_X6_mixNode_L22 (mo_links : Int32) (mo_fromOf : Nat → Int32) (mo_toOf : Nat → Int32) (mo_width : Int32) (mo_drawn : Int32) (mo_bundleOf : Nat → Int32) (mo_marks : Nat → Int64) (x1 : Int32) (r2 : Int32) : Nat → Int64 → Int32 → Int32 → Int32 → Int32 → Int32 → Int32 → Int64 → Int32 → Option (Int64 × Int32 × Int32 × Int32 × Int32 × Int32 × Int32 × Int64)
  | 0, _, _, _, _, _, _, _, _, _ => none
  | n + 1, mo_bitsNow_a22, mo_passages_a22, mo_astray_a22, mo_loops_a22, mo_steps_a22, mo_reached_a22, mo_others_a22, mo_h_a22, x3_a22 =>
      if (3 : Int32) ≤ x3_a22 then
        some (mo_bitsNow_a22, mo_passages_a22, mo_astray_a22, mo_loops_a22, mo_steps_a22, mo_reached_a22, mo_others_a22, mo_h_a22)
      else
        Option.bind (f_X6_laySpread mo_links mo_fromOf mo_toOf mo_bundleOf mo_marks x1 r2 x3_a22 (0 : Int32)) fun (mo_bitsNow_19, mo_passages_20, mo_astray_21, mo_loops_22, mo_steps_23, mo_reached_24, mo_others_25) =>
        Option.bind (f_X6_mixNode_L38 mo_width mo_drawn mo_bitsNow_19 mo_passages_20 mo_astray_21 mo_loops_22 mo_steps_23 mo_reached_24 mo_others_25 100 mo_h_a22 (0 : Int32)) fun mo_h_o27 =>
        f_X6_mixNode_L22 mo_links mo_fromOf mo_toOf mo_width mo_drawn mo_bundleOf mo_marks x1 r2 n mo_bitsNow_19 mo_passages_20 mo_astray_21 mo_loops_22 mo_steps_23 mo_reached_24 mo_others_25 mo_h_o27 (x3_a22 + (1 : Int32))
theorem f_X6_mixNode_L22_s (mo_links : Int32) (mo_fromOf : Nat → Int32) (mo_toOf : Nat → Int32) (mo_width : Int32) (mo_drawn : Int32) (mo_bundleOf : Nat → Int32) (mo_marks : Nat → Int64) (x1 : Int32) (r2 : Int32) (n : Nat) (mo_bitsNow_a22 : Int64) (mo_passages_a22 : Int32) (mo_astray_a22 : Int32) (mo_loops_a22 : Int32) (mo_steps_a22 : Int32) (mo_reached_a22 : Int32) (mo_others_a22 : Int32) (mo_h_a22 : Int64) (x3_a22 : Int32) : f_X6_mixNode_L22 mo_links mo_fromOf mo_toOf mo_width mo_drawn mo_bundleOf mo_marks x1 r2 (n + 1) mo_bitsNow_a22 mo_passages_a22 mo_astray_a22 mo_loops_a22 mo_steps_a22 mo_reached_a22 mo_others_a22 mo_h_a22 x3_a22 =
      (if (3 : Int32) ≤ x3_a22 then
        some (mo_bitsNow_a22, mo_passages_a22, mo_astray_a22, mo_loops_a22, mo_steps_a22, mo_reached_a22, mo_others_a22, mo_h_a22)
      else
        Option.bind (f_X6_laySpread mo_links mo_fromOf mo_toOf mo_bundleOf mo_marks x1 r2 x3_a22 (0 : Int32)) fun (mo_bitsNow_19, mo_passages_20, mo_astray_21, mo_loops_22, mo_steps_23, mo_reached_24, mo_others_25) =>
        Option.bind (f_X6_mixNode_L38 mo_width mo_drawn mo_bitsNow_19 mo_passages_20 mo_astray_21 mo_loops_22 mo_steps_23 mo_reached_24 mo_others_25 100 mo_h_a22 (0 : Int32)) fun mo_h_o27 =>
        f_X6_mixNode_L22 mo_links mo_fromOf mo_toOf mo_width mo_drawn mo_bundleOf mo_marks x1 r2 n mo_bitsNow_19 mo_passages_20 mo_astray_21 mo_loops_22 mo_steps_23 mo_reached_24 mo_others_25 mo_h_o27 (x3_a22 + (1 : Int32))) := rfl
def f_X6_mixNode (mo_nodes : Int32) (mo_links : Int32) (mo_fromOf : Nat → Int32) (mo_toOf : Nat → Int32) (mo_width : Int32) (mo_drawn : Int32) (mo_bundleOf : Nat → Int32) (mo_marks : Nat → Int64) (mo_leftOf : Nat → Int32) (mo_wayMany : Int32) (mo_wayAt : Nat → Int32) (mo_bitsNow : Int64) (mo_passages : Int32) (mo_astray : Int32) (mo_loops : Int32) (mo_steps : Int32) (mo_reached : Int32) (mo_others : Int32) (mo_h : Int64) (x1 : Int32) : Option ((Nat → Int32) × Int32 × (Nat → Int32) × Int64 × Int32 × Int32 × Int32 × Int32 × Int32 × Int32 × Int64) :=
  Option.bind (f_X6_treeOf mo_nodes mo_links mo_fromOf mo_toOf mo_leftOf mo_wayMany mo_wayAt x1 (((1 : Int32) <<< (mo_nodes &&& 31)) - (1 : Int32))) fun (r2, mo_leftOf_3, mo_wayMany_4, mo_wayAt_5) =>
  Option.bind (f_X6_mixNode_L22 mo_links mo_fromOf mo_toOf mo_width mo_drawn mo_bundleOf mo_marks x1 r2 100 mo_bitsNow mo_passages mo_astray mo_loops mo_steps mo_reached mo_others (f_X6_mix mo_h ((r2).toInt64)) (0 : Int32)) fun (mo_bitsNow_o8, mo_passages_o9, mo_astray_o10, mo_loops_o11, mo_steps_o12, mo_reached_o13, mo_others_o14, mo_h_o15) =>
  Option.bind (f_X6_bestOf mo_links mo_fromOf mo_toOf mo_bundleOf mo_marks mo_bitsNow_o8 mo_passages_o9 mo_astray_o10 mo_loops_o11 mo_steps_o12 mo_reached_o13 mo_others_o14 x1 r2 (0 : Int32)) fun (r37, mo_bitsNow_38, mo_passages_39, mo_astray_40, mo_loops_41, mo_steps_42, mo_reached_43, mo_others_44) =>
  Option.bind (f_X6_bestOf mo_links mo_fromOf mo_toOf mo_bundleOf mo_marks mo_bitsNow_38 mo_passages_39 mo_astray_40 mo_loops_41 mo_steps_42 mo_reached_43 mo_others_44 x1 r2 (1 : Int32)) fun (r48, mo_bitsNow_49, mo_passages_50, mo_astray_51, mo_loops_52, mo_steps_53, mo_reached_54, mo_others_55) =>
  some (mo_leftOf_3, mo_wayMany_4, mo_wayAt_5, mo_bitsNow_49, mo_passages_50, mo_astray_51, mo_loops_52, mo_steps_53, mo_reached_54, mo_others_55, (f_X6_mix (f_X6_mix mo_h_o15 ((r37).toInt64)) ((r48).toInt64)))
abbrev rm_X6_mixNode : Room := { frames := 5, cells := 0, slots := 0, locals := 125 }
set_option maxHeartbeats 4000000 in
set_option maxRecDepth 100000 in
theorem c_X6_mixNode (l : Launch) (D : va_G) (cI cJ : ClassId) (ad : Nat → Nat) (sz : Nat) {mo_pageLength : Int32} {mo_page : Nat → Int32} {mo_nodes mo_links : Int32} {mo_fromOf mo_toOf : Nat → Int32} {mo_width mo_drawn mo_seed : Int32} {mo_bundleOf : Nat → Int32} {mo_netsRead mo_sent mo_passagesEver mo_astrayEver mo_loopsEver mo_newNodes mo_newPairs mo_due mo_newOne : Int32} {mo_newFrom mo_newTo : Nat → Int32} {mo_marks : Nat → Int64} {mo_drawing : Int64} {mo_leftOf : Nat → Int32} {mo_wayMany : Int32} {mo_wayAt : Nat → Int32} {mo_bitsNow : Int64} {mo_passages mo_astray mo_loops mo_steps mo_reached mo_others : Int32} {mo_h : Int64} (x1 : Int32) {o_mo_leftOf : Nat → Int32} {o_mo_wayMany : Int32} {o_mo_wayAt : Nat → Int32} {o_mo_bitsNow : Int64} {o_mo_passages : Int32} {o_mo_astray : Int32} {o_mo_loops : Int32} {o_mo_steps : Int32} {o_mo_reached : Int32} {o_mo_others : Int32} {o_mo_h : Int64} (hf : f_X6_mixNode mo_nodes mo_links mo_fromOf mo_toOf mo_width mo_drawn mo_bundleOf mo_marks mo_leftOf mo_wayMany mo_wayAt mo_bitsNow mo_passages mo_astray mo_loops mo_steps mo_reached mo_others mo_h x1 = some (o_mo_leftOf, o_mo_wayMany, o_mo_wayAt, o_mo_bitsNow, o_mo_passages, o_mo_astray, o_mo_loops, o_mo_steps, o_mo_reached, o_mo_others, o_mo_h)) : CtV l yX6_mixNode wsX6_mixNode rm_X6_mixNode D cI cJ [.ref (ad 15), .int x1] (wdM cI cJ ad mo_pageLength mo_page mo_nodes mo_links mo_fromOf mo_toOf mo_width mo_drawn mo_seed mo_bundleOf mo_netsRead mo_sent mo_passagesEver mo_astrayEver mo_loopsEver mo_newNodes mo_newPairs mo_due mo_newOne mo_newFrom mo_newTo mo_marks mo_drawing mo_leftOf mo_wayMany mo_wayAt mo_bitsNow mo_passages mo_astray mo_loops mo_steps mo_reached mo_others mo_h) sz (wdM cI cJ ad mo_pageLength mo_page mo_nodes mo_links mo_fromOf mo_toOf mo_width mo_drawn mo_seed mo_bundleOf mo_netsRead mo_sent mo_passagesEver mo_astrayEver mo_loopsEver mo_newNodes mo_newPairs mo_due mo_newOne mo_newFrom mo_newTo mo_marks mo_drawing o_mo_leftOf o_mo_wayMany o_mo_wayAt o_mo_bitsNow o_mo_passages o_mo_astray o_mo_loops o_mo_steps o_mo_reached o_mo_others o_mo_h) := by
  refine ctV_of (cc := cX6_mixNode) (maxL := 5) (by decide) rfl (Nat.le_of_ble_eq_true rfl) ?_
  intro p e s m below meth c Q A hx hb hml hown hts hK hN hA hret ls hl hP hD hS
  obtain ⟨args, hargs⟩ : ∃ a : Array Value, a = [.ref (ad 15), .int x1].toArray := ⟨_, rfl⟩
  rw [← hargs] at hts hret ⊢
  have hown : s.vm.findClass RX6 = some m.cls := hown
  have hl : lv_has ls 5 [(0, .ref (ad 15)), (1, .int x1)] := hl
  have hin_X6 : ∀ w ∈ wsX60, w ∈ wsX6_mixNode := fun _ h => List.mem_cons_of_mem _ (List.mem_append_right _ h)
  have fl_82 : (Cond.fieldLink RX6 82 "FoldedWaysModel" "nodes" "I").before args s = true := hat hts 1 rfl
  unfold f_X6_mixNode at hf
  refine lv_aload_n hx hb dX6_mixNode_0 rfl (lv_at hl 0 rfl) ?_
  refine lv_iload_n hx hb dX6_mixNode_1 rfl (lv_at hl 1 rfl) ?_
  refine lv_iconst (v := (1 : Int32)) hx hb dX6_mixNode_2 (by decide) ?_
  refine lv_aload_n hx hb dX6_mixNode_3 rfl (lv_at hl 0 rfl) ?_
  refine va_get (ci := 6) (v := .int mo_nodes) (C := RX6) (T := TX6) (N := 34) hx hb hts hin_X6 hown hK hP 0 rfl rfl 2 (by decide) fl_82 (fun _ h9 => h9) rfl dX6_mixNode_4 ?_
  refine lv_ishl hx hb dX6_mixNode_7 ?_
  refine lv_iconst (v := (1 : Int32)) hx hb dX6_mixNode_8 (by decide) ?_
  refine lv_isub hx hb dX6_mixNode_9 ?_
  obtain ⟨⟨r2, mo_leftOf_3, mo_wayMany_4, mo_wayAt_5⟩, h1, hf⟩ := oo_b hf
  try dsimp only at hf
  have F : Fr D A _ (wdM cI cJ ad mo_pageLength mo_page mo_nodes mo_links mo_fromOf mo_toOf mo_width mo_drawn mo_seed mo_bundleOf mo_netsRead mo_sent mo_passagesEver mo_astrayEver mo_loopsEver mo_newNodes mo_newPairs mo_due mo_newOne mo_newFrom mo_newTo mo_marks mo_drawing mo_leftOf mo_wayMany mo_wayAt mo_bitsNow mo_passages mo_astray mo_loops mo_steps mo_reached mo_others mo_h) (wdM cI cJ ad mo_pageLength mo_page mo_nodes mo_links mo_fromOf mo_toOf mo_width mo_drawn mo_seed mo_bundleOf mo_netsRead mo_sent mo_passagesEver mo_astrayEver mo_loopsEver mo_newNodes mo_newPairs mo_due mo_newOne mo_newFrom mo_newTo mo_marks mo_drawing mo_leftOf_3 mo_wayMany_4 mo_wayAt_5 mo_bitsNow mo_passages mo_astray mo_loops mo_steps mo_reached mo_others mo_h) (wdM cI cJ ad mo_pageLength mo_page mo_nodes mo_links mo_fromOf mo_toOf mo_width mo_drawn mo_seed mo_bundleOf mo_netsRead mo_sent mo_passagesEver mo_astrayEver mo_loopsEver mo_newNodes mo_newPairs mo_due mo_newOne mo_newFrom mo_newTo mo_marks mo_drawing mo_leftOf_3 mo_wayMany_4 mo_wayAt_5 mo_bitsNow mo_passages mo_astray mo_loops mo_steps mo_reached mo_others mo_h) := fr_self hP hD hS hA
  refine kI F hS (rV (q := (RX6, TX6, 34)) (As := [.int x1, .int (((1 : Int32) <<< (mo_nodes &&& 31)) - (1 : Int32))]) (rest := []) ⟨hx, hb, hml, hown, hts⟩ hK hN F (c_X6_treeOf l D cI cJ ad _ (mo_pageLength := mo_pageLength) (mo_page := mo_page) (mo_nodes := mo_nodes) (mo_links := mo_links) (mo_fromOf := mo_fromOf) (mo_toOf := mo_toOf) (mo_width := mo_width) (mo_drawn := mo_drawn) (mo_seed := mo_seed) (mo_bundleOf := mo_bundleOf) (mo_netsRead := mo_netsRead) (mo_sent := mo_sent) (mo_passagesEver := mo_passagesEver) (mo_astrayEver := mo_astrayEver) (mo_loopsEver := mo_loopsEver) (mo_newNodes := mo_newNodes) (mo_newPairs := mo_newPairs) (mo_due := mo_due) (mo_newOne := mo_newOne) (mo_newFrom := mo_newFrom) (mo_newTo := mo_newTo) (mo_marks := mo_marks) (mo_drawing := mo_drawing) (mo_leftOf := mo_leftOf) (mo_wayMany := mo_wayMany) (mo_wayAt := mo_wayAt) (mo_bitsNow := mo_bitsNow) (mo_passages := mo_passages) (mo_astray := mo_astray) (mo_loops := mo_loops) (mo_steps := mo_steps) (mo_reached := mo_reached) (mo_others := mo_others) (mo_h := mo_h) x1 (((1 : Int32) <<< (mo_nodes &&& 31)) - (1 : Int32)) (o_res := r2) (o_mo_leftOf := mo_leftOf_3) (o_mo_wayMany := mo_wayMany_4) (o_mo_wayAt := mo_wayAt_5) h1) (cwV 2 hts gX6_mixNode_X6_treeOf rfl rfl rfl (by decide +kernel) ⟨Nat.le_of_ble_eq_true rfl, Nat.le_of_ble_eq_true rfl⟩) (ci := 6) rfl rfl rfl hl.1 rfl (Nat.le_of_ble_eq_true rfl) dX6_mixNode_10 ⟨Nat.zero_le _, Nat.zero_le _⟩) (fun H locs hP hD hS => ?_)
  refine lv_istore_n (lv' := [(2, .int r2), (0, .ref (ad 15)), (1, .int x1)]) hx hb dX6_mixNode_13 rfl hl (by decide) rfl (fun ls hl => ?_)
  refine lv_aload_n hx hb dX6_mixNode_14 rfl (lv_at hl 1 rfl) ?_
  refine lv_iload_n hx hb dX6_mixNode_15 rfl (lv_at hl 0 rfl) ?_
  refine lv_i2l (v := (r2).toInt64) hx hb dX6_mixNode_16 rfl ?_
  have F : Fr D A _ (wdM cI cJ ad mo_pageLength mo_page mo_nodes mo_links mo_fromOf mo_toOf mo_width mo_drawn mo_seed mo_bundleOf mo_netsRead mo_sent mo_passagesEver mo_astrayEver mo_loopsEver mo_newNodes mo_newPairs mo_due mo_newOne mo_newFrom mo_newTo mo_marks mo_drawing mo_leftOf_3 mo_wayMany_4 mo_wayAt_5 mo_bitsNow mo_passages mo_astray mo_loops mo_steps mo_reached mo_others mo_h) (wdM cI cJ ad mo_pageLength mo_page mo_nodes mo_links mo_fromOf mo_toOf mo_width mo_drawn mo_seed mo_bundleOf mo_netsRead mo_sent mo_passagesEver mo_astrayEver mo_loopsEver mo_newNodes mo_newPairs mo_due mo_newOne mo_newFrom mo_newTo mo_marks mo_drawing mo_leftOf_3 mo_wayMany_4 mo_wayAt_5 mo_bitsNow mo_passages mo_astray mo_loops mo_steps mo_reached mo_others (f_X6_mix mo_h ((r2).toInt64))) (wdM cI cJ ad mo_pageLength mo_page mo_nodes mo_links mo_fromOf mo_toOf mo_width mo_drawn mo_seed mo_bundleOf mo_netsRead mo_sent mo_passagesEver mo_astrayEver mo_loopsEver mo_newNodes mo_newPairs mo_due mo_newOne mo_newFrom mo_newTo mo_marks mo_drawing mo_leftOf_3 mo_wayMany_4 mo_wayAt_5 mo_bitsNow mo_passages mo_astray mo_loops mo_steps mo_reached mo_others (f_X6_mix mo_h ((r2).toInt64))) := fr_self hP hD hS hA
  refine kV F hS (rV (q := (RX6, TX6, 34)) (As := [.long ((r2).toInt64)]) (rest := []) ⟨hx, hb, hml, hown, hts⟩ hK hN F (c_X6_mix l D cI cJ ad _ (mo_pageLength := mo_pageLength) (mo_page := mo_page) (mo_nodes := mo_nodes) (mo_links := mo_links) (mo_fromOf := mo_fromOf) (mo_toOf := mo_toOf) (mo_width := mo_width) (mo_drawn := mo_drawn) (mo_seed := mo_seed) (mo_bundleOf := mo_bundleOf) (mo_netsRead := mo_netsRead) (mo_sent := mo_sent) (mo_passagesEver := mo_passagesEver) (mo_astrayEver := mo_astrayEver) (mo_loopsEver := mo_loopsEver) (mo_newNodes := mo_newNodes) (mo_newPairs := mo_newPairs) (mo_due := mo_due) (mo_newOne := mo_newOne) (mo_newFrom := mo_newFrom) (mo_newTo := mo_newTo) (mo_marks := mo_marks) (mo_drawing := mo_drawing) (mo_leftOf := mo_leftOf_3) (mo_wayMany := mo_wayMany_4) (mo_wayAt := mo_wayAt_5) (mo_bitsNow := mo_bitsNow) (mo_passages := mo_passages) (mo_astray := mo_astray) (mo_loops := mo_loops) (mo_steps := mo_steps) (mo_reached := mo_reached) (mo_others := mo_others) (mo_h := mo_h) ((r2).toInt64) (o_mo_h := (f_X6_mix mo_h ((r2).toInt64))) rfl) (cwV 1 hts gX6_mixNode_X6_mix rfl rfl rfl (by decide +kernel) ⟨Nat.le_of_ble_eq_true rfl, Nat.le_of_ble_eq_true rfl⟩) (ci := 6) rfl rfl rfl hl.1 rfl (Nat.le_of_ble_eq_true rfl) dX6_mixNode_17 ⟨Nat.zero_le _, Nat.zero_le _⟩) (fun H locs hP hD hS => ?_)
  refine lv_iconst (v := (0 : Int32)) hx hb dX6_mixNode_20 (by decide) ?_
  refine lv_istore_n (lv' := [(3, .int (0 : Int32)), (2, .int r2), (0, .ref (ad 15)), (1, .int x1)]) hx hb dX6_mixNode_21 rfl hl (by decide) rfl (fun ls hl => ?_)
  have lp16 : ∀ (n : Nat) (mo_bitsNow_a22 : Int64) (mo_passages_a22 : Int32) (mo_astray_a22 : Int32) (mo_loops_a22 : Int32) (mo_steps_a22 : Int32) (mo_reached_a22 : Int32) (mo_others_a22 : Int32) (mo_h_a22 : Int64) (x3_a22 : Int32) (mo_bitsNow_o8 : Int64) (mo_passages_o9 : Int32) (mo_astray_o10 : Int32) (mo_loops_o11 : Int32) (mo_steps_o12 : Int32) (mo_reached_o13 : Int32) (mo_others_o14 : Int32) (mo_h_o15 : Int64), f_X6_mixNode_L22 mo_links mo_fromOf mo_toOf mo_width mo_drawn mo_bundleOf mo_marks x1 r2 n mo_bitsNow_a22 mo_passages_a22 mo_astray_a22 mo_loops_a22 mo_steps_a22 mo_reached_a22 mo_others_a22 mo_h_a22 x3_a22 = some (mo_bitsNow_o8, mo_passages_o9, mo_astray_o10, mo_loops_o11, mo_steps_o12, mo_reached_o13, mo_others_o14, mo_h_o15) → (∀ (H : Heap) (locs : List Loc) (ls : Array Slot), va_P D vwCl (wdM cI cJ ad mo_pageLength mo_page mo_nodes mo_links mo_fromOf mo_toOf mo_width mo_drawn mo_seed mo_bundleOf mo_netsRead mo_sent mo_passagesEver mo_astrayEver mo_loopsEver mo_newNodes mo_newPairs mo_due mo_newOne mo_newFrom mo_newTo mo_marks mo_drawing mo_leftOf_3 mo_wayMany_4 mo_wayAt_5 mo_bitsNow_o8 mo_passages_o9 mo_astray_o10 mo_loops_o11 mo_steps_o12 mo_reached_o13 mo_others_o14 mo_h_o15) H → va_D A (wdM cI cJ ad mo_pageLength mo_page mo_nodes mo_links mo_fromOf mo_toOf mo_width mo_drawn mo_seed mo_bundleOf mo_netsRead mo_sent mo_passagesEver mo_astrayEver mo_loopsEver mo_newNodes mo_newPairs mo_due mo_newOne mo_newFrom mo_newTo mo_marks mo_drawing mo_leftOf_3 mo_wayMany_4 mo_wayAt_5 mo_bitsNow_o8 mo_passages_o9 mo_astray_o10 mo_loops_o11 mo_steps_o12 mo_reached_o13 mo_others_o14 mo_h_o15) → va_S A s.heap H locs → lv_has ls 5 [(0, .ref (ad 15)), (1, .int x1), (2, .int r2)] → W p l e rm_X6_mixNode s m args below meth c H locs 0 0 Q (F0 m 68 ls [])) → ∀ (H : Heap) (locs : List Loc) (ls : Array Slot), va_P D vwCl (wdM cI cJ ad mo_pageLength mo_page mo_nodes mo_links mo_fromOf mo_toOf mo_width mo_drawn mo_seed mo_bundleOf mo_netsRead mo_sent mo_passagesEver mo_astrayEver mo_loopsEver mo_newNodes mo_newPairs mo_due mo_newOne mo_newFrom mo_newTo mo_marks mo_drawing mo_leftOf_3 mo_wayMany_4 mo_wayAt_5 mo_bitsNow_a22 mo_passages_a22 mo_astray_a22 mo_loops_a22 mo_steps_a22 mo_reached_a22 mo_others_a22 mo_h_a22) H → va_D A (wdM cI cJ ad mo_pageLength mo_page mo_nodes mo_links mo_fromOf mo_toOf mo_width mo_drawn mo_seed mo_bundleOf mo_netsRead mo_sent mo_passagesEver mo_astrayEver mo_loopsEver mo_newNodes mo_newPairs mo_due mo_newOne mo_newFrom mo_newTo mo_marks mo_drawing mo_leftOf_3 mo_wayMany_4 mo_wayAt_5 mo_bitsNow_a22 mo_passages_a22 mo_astray_a22 mo_loops_a22 mo_steps_a22 mo_reached_a22 mo_others_a22 mo_h_a22) → va_S A s.heap H locs → lv_has ls 5 [(0, .ref (ad 15)), (1, .int x1), (2, .int r2), (3, .int x3_a22)] → W p l e rm_X6_mixNode s m args below meth c H locs 0 0 Q (F0 m 22 ls []) := by
    intro n
    induction n with
    | zero =>
      intro mo_bitsNow_a22 mo_passages_a22 mo_astray_a22 mo_loops_a22 mo_steps_a22 mo_reached_a22 mo_others_a22 mo_h_a22 x3_a22 mo_bitsNow_o8 mo_passages_o9 mo_astray_o10 mo_loops_o11 mo_steps_o12 mo_reached_o13 mo_others_o14 mo_h_o15 h0
      exact oo_n h0
    | succ n ih =>
      intro mo_bitsNow_a22 mo_passages_a22 mo_astray_a22 mo_loops_a22 mo_steps_a22 mo_reached_a22 mo_others_a22 mo_h_a22 x3_a22 mo_bitsNow_o8 mo_passages_o9 mo_astray_o10 mo_loops_o11 mo_steps_o12 mo_reached_o13 mo_others_o14 mo_h_o15 hf kk H locs ls hP hD hS hl
      rw [f_X6_mixNode_L22_s] at hf
      refine lv_iload_n hx hb dX6_mixNode_22 rfl (lv_at hl 3 rfl) ?_
      refine lv_iconst (v := (3 : Int32)) hx hb dX6_mixNode_23 (by decide) ?_
      refine lv_icmp_ge (tgt := 68) hx hb dX6_mixNode_24 (by decide) (fun c17 => ?_) (fun c17 => ?_)
      · have hf := oo_t hf c17
        cases hf
        exact kk _ _ _ hP hD hS (lv_sub hl [0, 1, 2] rfl)
      · have hf := oo_f hf c17
        refine lv_aload_n hx hb dX6_mixNode_27 rfl (lv_at hl 0 rfl) ?_
        refine lv_iload_n hx hb dX6_mixNode_28 rfl (lv_at hl 1 rfl) ?_
        refine lv_iload_n hx hb dX6_mixNode_29 rfl (lv_at hl 2 rfl) ?_
        refine lv_iload_n hx hb dX6_mixNode_30 rfl (lv_at hl 3 rfl) ?_
        refine lv_iconst (v := (0 : Int32)) hx hb dX6_mixNode_31 (by decide) ?_
        obtain ⟨⟨mo_bitsNow_19, mo_passages_20, mo_astray_21, mo_loops_22, mo_steps_23, mo_reached_24, mo_others_25⟩, h18, hf⟩ := oo_b hf
        try dsimp only at hf
        have F : Fr D A _ (wdM cI cJ ad mo_pageLength mo_page mo_nodes mo_links mo_fromOf mo_toOf mo_width mo_drawn mo_seed mo_bundleOf mo_netsRead mo_sent mo_passagesEver mo_astrayEver mo_loopsEver mo_newNodes mo_newPairs mo_due mo_newOne mo_newFrom mo_newTo mo_marks mo_drawing mo_leftOf_3 mo_wayMany_4 mo_wayAt_5 mo_bitsNow_a22 mo_passages_a22 mo_astray_a22 mo_loops_a22 mo_steps_a22 mo_reached_a22 mo_others_a22 mo_h_a22) (wdM cI cJ ad mo_pageLength mo_page mo_nodes mo_links mo_fromOf mo_toOf mo_width mo_drawn mo_seed mo_bundleOf mo_netsRead mo_sent mo_passagesEver mo_astrayEver mo_loopsEver mo_newNodes mo_newPairs mo_due mo_newOne mo_newFrom mo_newTo mo_marks mo_drawing mo_leftOf_3 mo_wayMany_4 mo_wayAt_5 mo_bitsNow_19 mo_passages_20 mo_astray_21 mo_loops_22 mo_steps_23 mo_reached_24 mo_others_25 mo_h_a22) (wdM cI cJ ad mo_pageLength mo_page mo_nodes mo_links mo_fromOf mo_toOf mo_width mo_drawn mo_seed mo_bundleOf mo_netsRead mo_sent mo_passagesEver mo_astrayEver mo_loopsEver mo_newNodes mo_newPairs mo_due mo_newOne mo_newFrom mo_newTo mo_marks mo_drawing mo_leftOf_3 mo_wayMany_4 mo_wayAt_5 mo_bitsNow_19 mo_passages_20 mo_astray_21 mo_loops_22 mo_steps_23 mo_reached_24 mo_others_25 mo_h_a22) := fr_self hP hD hS hA
        refine kV F hS (rV (q := (RX6, TX6, 34)) (As := [.int x1, .int r2, .int x3_a22, .int (0 : Int32)]) (rest := []) ⟨hx, hb, hml, hown, hts⟩ hK hN F (c_X6_laySpread l D cI cJ ad _ (mo_pageLength := mo_pageLength) (mo_page := mo_page) (mo_nodes := mo_nodes) (mo_links := mo_links) (mo_fromOf := mo_fromOf) (mo_toOf := mo_toOf) (mo_width := mo_width) (mo_drawn := mo_drawn) (mo_seed := mo_seed) (mo_bundleOf := mo_bundleOf) (mo_netsRead := mo_netsRead) (mo_sent := mo_sent) (mo_passagesEver := mo_passagesEver) (mo_astrayEver := mo_astrayEver) (mo_loopsEver := mo_loopsEver) (mo_newNodes := mo_newNodes) (mo_newPairs := mo_newPairs) (mo_due := mo_due) (mo_newOne := mo_newOne) (mo_newFrom := mo_newFrom) (mo_newTo := mo_newTo) (mo_marks := mo_marks) (mo_drawing := mo_drawing) (mo_leftOf := mo_leftOf_3) (mo_wayMany := mo_wayMany_4) (mo_wayAt := mo_wayAt_5) (mo_bitsNow := mo_bitsNow_a22) (mo_passages := mo_passages_a22) (mo_astray := mo_astray_a22) (mo_loops := mo_loops_a22) (mo_steps := mo_steps_a22) (mo_reached := mo_reached_a22) (mo_others := mo_others_a22) (mo_h := mo_h_a22) x1 r2 x3_a22 (0 : Int32) (o_mo_bitsNow := mo_bitsNow_19) (o_mo_passages := mo_passages_20) (o_mo_astray := mo_astray_21) (o_mo_loops := mo_loops_22) (o_mo_steps := mo_steps_23) (o_mo_reached := mo_reached_24) (o_mo_others := mo_others_25) h18) (cwV 4 hts gX6_mixNode_X6_laySpread rfl rfl rfl (by decide +kernel) ⟨Nat.le_of_ble_eq_true rfl, Nat.le_of_ble_eq_true rfl⟩) (ci := 6) rfl rfl rfl hl.1 rfl (Nat.le_of_ble_eq_true rfl) dX6_mixNode_32 ⟨Nat.zero_le _, Nat.zero_le _⟩) (fun H locs hP hD hS => ?_)
        refine lv_iconst (v := (0 : Int32)) hx hb dX6_mixNode_35 (by decide) ?_
        refine lv_istore (lv' := [(4, .int (0 : Int32)), (0, .ref (ad 15)), (1, .int x1), (2, .int r2), (3, .int x3_a22)]) hx hb dX6_mixNode_36 hl (by decide) rfl (fun ls hl => ?_)
        have lp28 : ∀ (n : Nat) (mo_h_a38 : Int64) (x4_a38 : Int32) (mo_h_o27 : Int64), f_X6_mixNode_L38 mo_width mo_drawn mo_bitsNow_19 mo_passages_20 mo_astray_21 mo_loops_22 mo_steps_23 mo_reached_24 mo_others_25 n mo_h_a38 x4_a38 = some mo_h_o27 → (∀ (H : Heap) (locs : List Loc) (ls : Array Slot), va_P D vwCl (wdM cI cJ ad mo_pageLength mo_page mo_nodes mo_links mo_fromOf mo_toOf mo_width mo_drawn mo_seed mo_bundleOf mo_netsRead mo_sent mo_passagesEver mo_astrayEver mo_loopsEver mo_newNodes mo_newPairs mo_due mo_newOne mo_newFrom mo_newTo mo_marks mo_drawing mo_leftOf_3 mo_wayMany_4 mo_wayAt_5 mo_bitsNow_19 mo_passages_20 mo_astray_21 mo_loops_22 mo_steps_23 mo_reached_24 mo_others_25 mo_h_o27) H → va_D A (wdM cI cJ ad mo_pageLength mo_page mo_nodes mo_links mo_fromOf mo_toOf mo_width mo_drawn mo_seed mo_bundleOf mo_netsRead mo_sent mo_passagesEver mo_astrayEver mo_loopsEver mo_newNodes mo_newPairs mo_due mo_newOne mo_newFrom mo_newTo mo_marks mo_drawing mo_leftOf_3 mo_wayMany_4 mo_wayAt_5 mo_bitsNow_19 mo_passages_20 mo_astray_21 mo_loops_22 mo_steps_23 mo_reached_24 mo_others_25 mo_h_o27) → va_S A s.heap H locs → lv_has ls 5 [(0, .ref (ad 15)), (1, .int x1), (2, .int r2), (3, .int x3_a22)] → W p l e rm_X6_mixNode s m args below meth c H locs 0 0 Q (F0 m 62 ls [])) → ∀ (H : Heap) (locs : List Loc) (ls : Array Slot), va_P D vwCl (wdM cI cJ ad mo_pageLength mo_page mo_nodes mo_links mo_fromOf mo_toOf mo_width mo_drawn mo_seed mo_bundleOf mo_netsRead mo_sent mo_passagesEver mo_astrayEver mo_loopsEver mo_newNodes mo_newPairs mo_due mo_newOne mo_newFrom mo_newTo mo_marks mo_drawing mo_leftOf_3 mo_wayMany_4 mo_wayAt_5 mo_bitsNow_19 mo_passages_20 mo_astray_21 mo_loops_22 mo_steps_23 mo_reached_24 mo_others_25 mo_h_a38) H → va_D A (wdM cI cJ ad mo_pageLength mo_page mo_nodes mo_links mo_fromOf mo_toOf mo_width mo_drawn mo_seed mo_bundleOf mo_netsRead mo_sent mo_passagesEver mo_astrayEver mo_loopsEver mo_newNodes mo_newPairs mo_due mo_newOne mo_newFrom mo_newTo mo_marks mo_drawing mo_leftOf_3 mo_wayMany_4 mo_wayAt_5 mo_bitsNow_19 mo_passages_20 mo_astray_21 mo_loops_22 mo_steps_23 mo_reached_24 mo_others_25 mo_h_a38) → va_S A s.heap H locs → lv_has ls 5 [(0, .ref (ad 15)), (1, .int x1), (2, .int r2), (3, .int x3_a22), (4, .int x4_a38)] → W p l e rm_X6_mixNode s m args below meth c H locs 0 0 Q (F0 m 38 ls []) := by
          intro n
          induction n with
          | zero =>
            intro mo_h_a38 x4_a38 mo_h_o27 h0
            exact oo_n h0
          | succ n ih =>
            intro mo_h_a38 x4_a38 mo_h_o27 hf kk H locs ls hP hD hS hl
            rw [f_X6_mixNode_L38_s] at hf
            refine lv_iload hx hb dX6_mixNode_38 (lv_at hl 4 rfl) ?_
            refine lv_bipush (v := (9 : Int32)) hx hb dX6_mixNode_40 (by decide) ?_
            refine lv_icmp_ge (tgt := 62) hx hb dX6_mixNode_42 (by decide) (fun c29 => ?_) (fun c29 => ?_)
            · have hf := oo_t hf c29
              cases hf
              exact kk _ _ _ hP hD hS (lv_sub hl [0, 1, 2, 3] rfl)
            · have hf := oo_f hf c29
              refine lv_aload_n hx hb dX6_mixNode_45 rfl (lv_at hl 0 rfl) ?_
              refine lv_aload_n hx hb dX6_mixNode_46 rfl (lv_at hl 0 rfl) ?_
              refine lv_iload hx hb dX6_mixNode_47 (lv_at hl 4 rfl) ?_
              obtain ⟨r31, h30, hf⟩ := oo_b hf
              try dsimp only at hf
              have F : Fr D A _ (wdM cI cJ ad mo_pageLength mo_page mo_nodes mo_links mo_fromOf mo_toOf mo_width mo_drawn mo_seed mo_bundleOf mo_netsRead mo_sent mo_passagesEver mo_astrayEver mo_loopsEver mo_newNodes mo_newPairs mo_due mo_newOne mo_newFrom mo_newTo mo_marks mo_drawing mo_leftOf_3 mo_wayMany_4 mo_wayAt_5 mo_bitsNow_19 mo_passages_20 mo_astray_21 mo_loops_22 mo_steps_23 mo_reached_24 mo_others_25 mo_h_a38) (wdM cI cJ ad mo_pageLength mo_page mo_nodes mo_links mo_fromOf mo_toOf mo_width mo_drawn mo_seed mo_bundleOf mo_netsRead mo_sent mo_passagesEver mo_astrayEver mo_loopsEver mo_newNodes mo_newPairs mo_due mo_newOne mo_newFrom mo_newTo mo_marks mo_drawing mo_leftOf_3 mo_wayMany_4 mo_wayAt_5 mo_bitsNow_19 mo_passages_20 mo_astray_21 mo_loops_22 mo_steps_23 mo_reached_24 mo_others_25 mo_h_a38) (wdM cI cJ ad mo_pageLength mo_page mo_nodes mo_links mo_fromOf mo_toOf mo_width mo_drawn mo_seed mo_bundleOf mo_netsRead mo_sent mo_passagesEver mo_astrayEver mo_loopsEver mo_newNodes mo_newPairs mo_due mo_newOne mo_newFrom mo_newTo mo_marks mo_drawing mo_leftOf_3 mo_wayMany_4 mo_wayAt_5 mo_bitsNow_19 mo_passages_20 mo_astray_21 mo_loops_22 mo_steps_23 mo_reached_24 mo_others_25 mo_h_a38) := fr_self hP hD hS hA
              refine kI F hS (rV (q := (RX6, TX6, 34)) (As := [.int x4_a38]) (rest := [.ref (ad 15)]) ⟨hx, hb, hml, hown, hts⟩ hK hN F (c_X6_spreadNow l D cI cJ ad _ (mo_pageLength := mo_pageLength) (mo_page := mo_page) (mo_nodes := mo_nodes) (mo_links := mo_links) (mo_fromOf := mo_fromOf) (mo_toOf := mo_toOf) (mo_width := mo_width) (mo_drawn := mo_drawn) (mo_seed := mo_seed) (mo_bundleOf := mo_bundleOf) (mo_netsRead := mo_netsRead) (mo_sent := mo_sent) (mo_passagesEver := mo_passagesEver) (mo_astrayEver := mo_astrayEver) (mo_loopsEver := mo_loopsEver) (mo_newNodes := mo_newNodes) (mo_newPairs := mo_newPairs) (mo_due := mo_due) (mo_newOne := mo_newOne) (mo_newFrom := mo_newFrom) (mo_newTo := mo_newTo) (mo_marks := mo_marks) (mo_drawing := mo_drawing) (mo_leftOf := mo_leftOf_3) (mo_wayMany := mo_wayMany_4) (mo_wayAt := mo_wayAt_5) (mo_bitsNow := mo_bitsNow_19) (mo_passages := mo_passages_20) (mo_astray := mo_astray_21) (mo_loops := mo_loops_22) (mo_steps := mo_steps_23) (mo_reached := mo_reached_24) (mo_others := mo_others_25) (mo_h := mo_h_a38) x4_a38 (o_res := r31) h30) (cwV 1 hts gX6_mixNode_X6_spreadNow rfl rfl rfl (by decide +kernel) ⟨Nat.le_of_ble_eq_true rfl, Nat.le_of_ble_eq_true rfl⟩) (ci := 6) rfl rfl rfl hl.1 rfl (Nat.le_of_ble_eq_true rfl) dX6_mixNode_49 ⟨Nat.zero_le _, Nat.zero_le _⟩) (fun H locs hP hD hS => ?_)
              refine lv_i2l (v := (r31).toInt64) hx hb dX6_mixNode_52 rfl ?_
              have F : Fr D A _ (wdM cI cJ ad mo_pageLength mo_page mo_nodes mo_links mo_fromOf mo_toOf mo_width mo_drawn mo_seed mo_bundleOf mo_netsRead mo_sent mo_passagesEver mo_astrayEver mo_loopsEver mo_newNodes mo_newPairs mo_due mo_newOne mo_newFrom mo_newTo mo_marks mo_drawing mo_leftOf_3 mo_wayMany_4 mo_wayAt_5 mo_bitsNow_19 mo_passages_20 mo_astray_21 mo_loops_22 mo_steps_23 mo_reached_24 mo_others_25 mo_h_a38) (wdM cI cJ ad mo_pageLength mo_page mo_nodes mo_links mo_fromOf mo_toOf mo_width mo_drawn mo_seed mo_bundleOf mo_netsRead mo_sent mo_passagesEver mo_astrayEver mo_loopsEver mo_newNodes mo_newPairs mo_due mo_newOne mo_newFrom mo_newTo mo_marks mo_drawing mo_leftOf_3 mo_wayMany_4 mo_wayAt_5 mo_bitsNow_19 mo_passages_20 mo_astray_21 mo_loops_22 mo_steps_23 mo_reached_24 mo_others_25 (f_X6_mix mo_h_a38 ((r31).toInt64))) (wdM cI cJ ad mo_pageLength mo_page mo_nodes mo_links mo_fromOf mo_toOf mo_width mo_drawn mo_seed mo_bundleOf mo_netsRead mo_sent mo_passagesEver mo_astrayEver mo_loopsEver mo_newNodes mo_newPairs mo_due mo_newOne mo_newFrom mo_newTo mo_marks mo_drawing mo_leftOf_3 mo_wayMany_4 mo_wayAt_5 mo_bitsNow_19 mo_passages_20 mo_astray_21 mo_loops_22 mo_steps_23 mo_reached_24 mo_others_25 (f_X6_mix mo_h_a38 ((r31).toInt64))) := fr_self hP hD hS hA
              refine kV F hS (rV (q := (RX6, TX6, 34)) (As := [.long ((r31).toInt64)]) (rest := []) ⟨hx, hb, hml, hown, hts⟩ hK hN F (c_X6_mix l D cI cJ ad _ (mo_pageLength := mo_pageLength) (mo_page := mo_page) (mo_nodes := mo_nodes) (mo_links := mo_links) (mo_fromOf := mo_fromOf) (mo_toOf := mo_toOf) (mo_width := mo_width) (mo_drawn := mo_drawn) (mo_seed := mo_seed) (mo_bundleOf := mo_bundleOf) (mo_netsRead := mo_netsRead) (mo_sent := mo_sent) (mo_passagesEver := mo_passagesEver) (mo_astrayEver := mo_astrayEver) (mo_loopsEver := mo_loopsEver) (mo_newNodes := mo_newNodes) (mo_newPairs := mo_newPairs) (mo_due := mo_due) (mo_newOne := mo_newOne) (mo_newFrom := mo_newFrom) (mo_newTo := mo_newTo) (mo_marks := mo_marks) (mo_drawing := mo_drawing) (mo_leftOf := mo_leftOf_3) (mo_wayMany := mo_wayMany_4) (mo_wayAt := mo_wayAt_5) (mo_bitsNow := mo_bitsNow_19) (mo_passages := mo_passages_20) (mo_astray := mo_astray_21) (mo_loops := mo_loops_22) (mo_steps := mo_steps_23) (mo_reached := mo_reached_24) (mo_others := mo_others_25) (mo_h := mo_h_a38) ((r31).toInt64) (o_mo_h := (f_X6_mix mo_h_a38 ((r31).toInt64))) rfl) (cwV 1 hts gX6_mixNode_X6_mix rfl rfl rfl (by decide +kernel) ⟨Nat.le_of_ble_eq_true rfl, Nat.le_of_ble_eq_true rfl⟩) (ci := 6) rfl rfl rfl hl.1 rfl (Nat.le_of_ble_eq_true rfl) dX6_mixNode_53 ⟨Nat.zero_le _, Nat.zero_le _⟩) (fun H locs hP hD hS => ?_)
              refine lv_iinc (v := (x4_a38 + (1 : Int32))) (lv' := [(4, .int (x4_a38 + (1 : Int32))), (0, .ref (ad 15)), (1, .int x1), (2, .int r2), (3, .int x3_a22)]) hx hb dX6_mixNode_56 hl (k := 4) rfl rfl (by decide) rfl (fun ls hl => ?_)
              refine lv_goto (tgt := 38) hx hb dX6_mixNode_59 (by decide) ?_
              exact ih (f_X6_mix mo_h_a38 ((r31).toInt64)) (x4_a38 + (1 : Int32)) _ hf kk _ _ _ hP hD hS (lv_sub hl [1, 2, 3, 4, 0] rfl)
        obtain ⟨mo_h_o27, h34, hf⟩ := oo_b hf
        try dsimp only at hf
        refine lp28  100 mo_h_a22 (0 : Int32) mo_h_o27 h34 (fun H locs ls hP hD hS hl => ?_) _ _ _ hP hD hS (lv_sub hl [1, 2, 3, 4, 0] rfl)
        refine lv_iinc (v := (x3_a22 + (1 : Int32))) (lv' := [(3, .int (x3_a22 + (1 : Int32))), (0, .ref (ad 15)), (1, .int x1), (2, .int r2)]) hx hb dX6_mixNode_62 hl (k := 3) rfl rfl (by decide) rfl (fun ls hl => ?_)
        refine lv_goto (tgt := 22) hx hb dX6_mixNode_65 (by decide) ?_
        exact ih mo_bitsNow_19 mo_passages_20 mo_astray_21 mo_loops_22 mo_steps_23 mo_reached_24 mo_others_25 mo_h_o27 (x3_a22 + (1 : Int32)) _ _ _ _ _ _ _ _ hf kk _ _ _ hP hD hS (lv_sub hl [1, 2, 3, 0] rfl)
  obtain ⟨⟨mo_bitsNow_o8, mo_passages_o9, mo_astray_o10, mo_loops_o11, mo_steps_o12, mo_reached_o13, mo_others_o14, mo_h_o15⟩, h35, hf⟩ := oo_b hf
  try dsimp only at hf
  refine lp16  100 mo_bitsNow mo_passages mo_astray mo_loops mo_steps mo_reached mo_others (f_X6_mix mo_h ((r2).toInt64)) (0 : Int32) mo_bitsNow_o8 mo_passages_o9 mo_astray_o10 mo_loops_o11 mo_steps_o12 mo_reached_o13 mo_others_o14 mo_h_o15 h35 (fun H locs ls hP hD hS hl => ?_) _ _ _ hP hD hS (lv_sub hl [2, 3, 1, 0] rfl)
  refine lv_aload_n hx hb dX6_mixNode_68 rfl (lv_at hl 0 rfl) ?_
  refine lv_aload_n hx hb dX6_mixNode_69 rfl (lv_at hl 0 rfl) ?_
  refine lv_iload_n hx hb dX6_mixNode_70 rfl (lv_at hl 1 rfl) ?_
  refine lv_iload_n hx hb dX6_mixNode_71 rfl (lv_at hl 2 rfl) ?_
  refine lv_iconst (v := (0 : Int32)) hx hb dX6_mixNode_72 (by decide) ?_
  obtain ⟨⟨r37, mo_bitsNow_38, mo_passages_39, mo_astray_40, mo_loops_41, mo_steps_42, mo_reached_43, mo_others_44⟩, h36, hf⟩ := oo_b hf
  try dsimp only at hf
  have F : Fr D A _ (wdM cI cJ ad mo_pageLength mo_page mo_nodes mo_links mo_fromOf mo_toOf mo_width mo_drawn mo_seed mo_bundleOf mo_netsRead mo_sent mo_passagesEver mo_astrayEver mo_loopsEver mo_newNodes mo_newPairs mo_due mo_newOne mo_newFrom mo_newTo mo_marks mo_drawing mo_leftOf_3 mo_wayMany_4 mo_wayAt_5 mo_bitsNow_o8 mo_passages_o9 mo_astray_o10 mo_loops_o11 mo_steps_o12 mo_reached_o13 mo_others_o14 mo_h_o15) (wdM cI cJ ad mo_pageLength mo_page mo_nodes mo_links mo_fromOf mo_toOf mo_width mo_drawn mo_seed mo_bundleOf mo_netsRead mo_sent mo_passagesEver mo_astrayEver mo_loopsEver mo_newNodes mo_newPairs mo_due mo_newOne mo_newFrom mo_newTo mo_marks mo_drawing mo_leftOf_3 mo_wayMany_4 mo_wayAt_5 mo_bitsNow_38 mo_passages_39 mo_astray_40 mo_loops_41 mo_steps_42 mo_reached_43 mo_others_44 mo_h_o15) (wdM cI cJ ad mo_pageLength mo_page mo_nodes mo_links mo_fromOf mo_toOf mo_width mo_drawn mo_seed mo_bundleOf mo_netsRead mo_sent mo_passagesEver mo_astrayEver mo_loopsEver mo_newNodes mo_newPairs mo_due mo_newOne mo_newFrom mo_newTo mo_marks mo_drawing mo_leftOf_3 mo_wayMany_4 mo_wayAt_5 mo_bitsNow_38 mo_passages_39 mo_astray_40 mo_loops_41 mo_steps_42 mo_reached_43 mo_others_44 mo_h_o15) := fr_self hP hD hS hA
  refine kI F hS (rV (q := (RX6, TX6, 34)) (As := [.int x1, .int r2, .int (0 : Int32)]) (rest := [.ref (ad 15)]) ⟨hx, hb, hml, hown, hts⟩ hK hN F (c_X6_bestOf l D cI cJ ad _ (mo_pageLength := mo_pageLength) (mo_page := mo_page) (mo_nodes := mo_nodes) (mo_links := mo_links) (mo_fromOf := mo_fromOf) (mo_toOf := mo_toOf) (mo_width := mo_width) (mo_drawn := mo_drawn) (mo_seed := mo_seed) (mo_bundleOf := mo_bundleOf) (mo_netsRead := mo_netsRead) (mo_sent := mo_sent) (mo_passagesEver := mo_passagesEver) (mo_astrayEver := mo_astrayEver) (mo_loopsEver := mo_loopsEver) (mo_newNodes := mo_newNodes) (mo_newPairs := mo_newPairs) (mo_due := mo_due) (mo_newOne := mo_newOne) (mo_newFrom := mo_newFrom) (mo_newTo := mo_newTo) (mo_marks := mo_marks) (mo_drawing := mo_drawing) (mo_leftOf := mo_leftOf_3) (mo_wayMany := mo_wayMany_4) (mo_wayAt := mo_wayAt_5) (mo_bitsNow := mo_bitsNow_o8) (mo_passages := mo_passages_o9) (mo_astray := mo_astray_o10) (mo_loops := mo_loops_o11) (mo_steps := mo_steps_o12) (mo_reached := mo_reached_o13) (mo_others := mo_others_o14) (mo_h := mo_h_o15) x1 r2 (0 : Int32) (o_res := r37) (o_mo_bitsNow := mo_bitsNow_38) (o_mo_passages := mo_passages_39) (o_mo_astray := mo_astray_40) (o_mo_loops := mo_loops_41) (o_mo_steps := mo_steps_42) (o_mo_reached := mo_reached_43) (o_mo_others := mo_others_44) h36) (cwV 3 hts gX6_mixNode_X6_bestOf rfl rfl rfl (by decide +kernel) ⟨Nat.le_of_ble_eq_true rfl, Nat.le_of_ble_eq_true rfl⟩) (ci := 6) rfl rfl rfl hl.1 rfl (Nat.le_of_ble_eq_true rfl) dX6_mixNode_73 ⟨Nat.zero_le _, Nat.zero_le _⟩) (fun H locs hP hD hS => ?_)
  refine lv_i2l (v := (r37).toInt64) hx hb dX6_mixNode_76 rfl ?_
  have F : Fr D A _ (wdM cI cJ ad mo_pageLength mo_page mo_nodes mo_links mo_fromOf mo_toOf mo_width mo_drawn mo_seed mo_bundleOf mo_netsRead mo_sent mo_passagesEver mo_astrayEver mo_loopsEver mo_newNodes mo_newPairs mo_due mo_newOne mo_newFrom mo_newTo mo_marks mo_drawing mo_leftOf_3 mo_wayMany_4 mo_wayAt_5 mo_bitsNow_38 mo_passages_39 mo_astray_40 mo_loops_41 mo_steps_42 mo_reached_43 mo_others_44 mo_h_o15) (wdM cI cJ ad mo_pageLength mo_page mo_nodes mo_links mo_fromOf mo_toOf mo_width mo_drawn mo_seed mo_bundleOf mo_netsRead mo_sent mo_passagesEver mo_astrayEver mo_loopsEver mo_newNodes mo_newPairs mo_due mo_newOne mo_newFrom mo_newTo mo_marks mo_drawing mo_leftOf_3 mo_wayMany_4 mo_wayAt_5 mo_bitsNow_38 mo_passages_39 mo_astray_40 mo_loops_41 mo_steps_42 mo_reached_43 mo_others_44 (f_X6_mix mo_h_o15 ((r37).toInt64))) (wdM cI cJ ad mo_pageLength mo_page mo_nodes mo_links mo_fromOf mo_toOf mo_width mo_drawn mo_seed mo_bundleOf mo_netsRead mo_sent mo_passagesEver mo_astrayEver mo_loopsEver mo_newNodes mo_newPairs mo_due mo_newOne mo_newFrom mo_newTo mo_marks mo_drawing mo_leftOf_3 mo_wayMany_4 mo_wayAt_5 mo_bitsNow_38 mo_passages_39 mo_astray_40 mo_loops_41 mo_steps_42 mo_reached_43 mo_others_44 (f_X6_mix mo_h_o15 ((r37).toInt64))) := fr_self hP hD hS hA
  refine kV F hS (rV (q := (RX6, TX6, 34)) (As := [.long ((r37).toInt64)]) (rest := []) ⟨hx, hb, hml, hown, hts⟩ hK hN F (c_X6_mix l D cI cJ ad _ (mo_pageLength := mo_pageLength) (mo_page := mo_page) (mo_nodes := mo_nodes) (mo_links := mo_links) (mo_fromOf := mo_fromOf) (mo_toOf := mo_toOf) (mo_width := mo_width) (mo_drawn := mo_drawn) (mo_seed := mo_seed) (mo_bundleOf := mo_bundleOf) (mo_netsRead := mo_netsRead) (mo_sent := mo_sent) (mo_passagesEver := mo_passagesEver) (mo_astrayEver := mo_astrayEver) (mo_loopsEver := mo_loopsEver) (mo_newNodes := mo_newNodes) (mo_newPairs := mo_newPairs) (mo_due := mo_due) (mo_newOne := mo_newOne) (mo_newFrom := mo_newFrom) (mo_newTo := mo_newTo) (mo_marks := mo_marks) (mo_drawing := mo_drawing) (mo_leftOf := mo_leftOf_3) (mo_wayMany := mo_wayMany_4) (mo_wayAt := mo_wayAt_5) (mo_bitsNow := mo_bitsNow_38) (mo_passages := mo_passages_39) (mo_astray := mo_astray_40) (mo_loops := mo_loops_41) (mo_steps := mo_steps_42) (mo_reached := mo_reached_43) (mo_others := mo_others_44) (mo_h := mo_h_o15) ((r37).toInt64) (o_mo_h := (f_X6_mix mo_h_o15 ((r37).toInt64))) rfl) (cwV 1 hts gX6_mixNode_X6_mix rfl rfl rfl (by decide +kernel) ⟨Nat.le_of_ble_eq_true rfl, Nat.le_of_ble_eq_true rfl⟩) (ci := 6) rfl rfl rfl hl.1 rfl (Nat.le_of_ble_eq_true rfl) dX6_mixNode_77 ⟨Nat.zero_le _, Nat.zero_le _⟩) (fun H locs hP hD hS => ?_)
  refine lv_aload_n hx hb dX6_mixNode_80 rfl (lv_at hl 0 rfl) ?_
  refine lv_aload_n hx hb dX6_mixNode_81 rfl (lv_at hl 0 rfl) ?_
  refine lv_iload_n hx hb dX6_mixNode_82 rfl (lv_at hl 1 rfl) ?_
  refine lv_iload_n hx hb dX6_mixNode_83 rfl (lv_at hl 2 rfl) ?_
  refine lv_iconst (v := (1 : Int32)) hx hb dX6_mixNode_84 (by decide) ?_
  obtain ⟨⟨r48, mo_bitsNow_49, mo_passages_50, mo_astray_51, mo_loops_52, mo_steps_53, mo_reached_54, mo_others_55⟩, h47, hf⟩ := oo_b hf
  try dsimp only at hf
  have F : Fr D A _ (wdM cI cJ ad mo_pageLength mo_page mo_nodes mo_links mo_fromOf mo_toOf mo_width mo_drawn mo_seed mo_bundleOf mo_netsRead mo_sent mo_passagesEver mo_astrayEver mo_loopsEver mo_newNodes mo_newPairs mo_due mo_newOne mo_newFrom mo_newTo mo_marks mo_drawing mo_leftOf_3 mo_wayMany_4 mo_wayAt_5 mo_bitsNow_38 mo_passages_39 mo_astray_40 mo_loops_41 mo_steps_42 mo_reached_43 mo_others_44 (f_X6_mix mo_h_o15 ((r37).toInt64))) (wdM cI cJ ad mo_pageLength mo_page mo_nodes mo_links mo_fromOf mo_toOf mo_width mo_drawn mo_seed mo_bundleOf mo_netsRead mo_sent mo_passagesEver mo_astrayEver mo_loopsEver mo_newNodes mo_newPairs mo_due mo_newOne mo_newFrom mo_newTo mo_marks mo_drawing mo_leftOf_3 mo_wayMany_4 mo_wayAt_5 mo_bitsNow_49 mo_passages_50 mo_astray_51 mo_loops_52 mo_steps_53 mo_reached_54 mo_others_55 (f_X6_mix mo_h_o15 ((r37).toInt64))) (wdM cI cJ ad mo_pageLength mo_page mo_nodes mo_links mo_fromOf mo_toOf mo_width mo_drawn mo_seed mo_bundleOf mo_netsRead mo_sent mo_passagesEver mo_astrayEver mo_loopsEver mo_newNodes mo_newPairs mo_due mo_newOne mo_newFrom mo_newTo mo_marks mo_drawing mo_leftOf_3 mo_wayMany_4 mo_wayAt_5 mo_bitsNow_49 mo_passages_50 mo_astray_51 mo_loops_52 mo_steps_53 mo_reached_54 mo_others_55 (f_X6_mix mo_h_o15 ((r37).toInt64))) := fr_self hP hD hS hA
  refine kI F hS (rV (q := (RX6, TX6, 34)) (As := [.int x1, .int r2, .int (1 : Int32)]) (rest := [.ref (ad 15)]) ⟨hx, hb, hml, hown, hts⟩ hK hN F (c_X6_bestOf l D cI cJ ad _ (mo_pageLength := mo_pageLength) (mo_page := mo_page) (mo_nodes := mo_nodes) (mo_links := mo_links) (mo_fromOf := mo_fromOf) (mo_toOf := mo_toOf) (mo_width := mo_width) (mo_drawn := mo_drawn) (mo_seed := mo_seed) (mo_bundleOf := mo_bundleOf) (mo_netsRead := mo_netsRead) (mo_sent := mo_sent) (mo_passagesEver := mo_passagesEver) (mo_astrayEver := mo_astrayEver) (mo_loopsEver := mo_loopsEver) (mo_newNodes := mo_newNodes) (mo_newPairs := mo_newPairs) (mo_due := mo_due) (mo_newOne := mo_newOne) (mo_newFrom := mo_newFrom) (mo_newTo := mo_newTo) (mo_marks := mo_marks) (mo_drawing := mo_drawing) (mo_leftOf := mo_leftOf_3) (mo_wayMany := mo_wayMany_4) (mo_wayAt := mo_wayAt_5) (mo_bitsNow := mo_bitsNow_38) (mo_passages := mo_passages_39) (mo_astray := mo_astray_40) (mo_loops := mo_loops_41) (mo_steps := mo_steps_42) (mo_reached := mo_reached_43) (mo_others := mo_others_44) (mo_h := (f_X6_mix mo_h_o15 ((r37).toInt64))) x1 r2 (1 : Int32) (o_res := r48) (o_mo_bitsNow := mo_bitsNow_49) (o_mo_passages := mo_passages_50) (o_mo_astray := mo_astray_51) (o_mo_loops := mo_loops_52) (o_mo_steps := mo_steps_53) (o_mo_reached := mo_reached_54) (o_mo_others := mo_others_55) h47) (cwV 3 hts gX6_mixNode_X6_bestOf rfl rfl rfl (by decide +kernel) ⟨Nat.le_of_ble_eq_true rfl, Nat.le_of_ble_eq_true rfl⟩) (ci := 6) rfl rfl rfl hl.1 rfl (Nat.le_of_ble_eq_true rfl) dX6_mixNode_85 ⟨Nat.zero_le _, Nat.zero_le _⟩) (fun H locs hP hD hS => ?_)
  refine lv_i2l (v := (r48).toInt64) hx hb dX6_mixNode_88 rfl ?_
  have F : Fr D A _ (wdM cI cJ ad mo_pageLength mo_page mo_nodes mo_links mo_fromOf mo_toOf mo_width mo_drawn mo_seed mo_bundleOf mo_netsRead mo_sent mo_passagesEver mo_astrayEver mo_loopsEver mo_newNodes mo_newPairs mo_due mo_newOne mo_newFrom mo_newTo mo_marks mo_drawing mo_leftOf_3 mo_wayMany_4 mo_wayAt_5 mo_bitsNow_49 mo_passages_50 mo_astray_51 mo_loops_52 mo_steps_53 mo_reached_54 mo_others_55 (f_X6_mix mo_h_o15 ((r37).toInt64))) (wdM cI cJ ad mo_pageLength mo_page mo_nodes mo_links mo_fromOf mo_toOf mo_width mo_drawn mo_seed mo_bundleOf mo_netsRead mo_sent mo_passagesEver mo_astrayEver mo_loopsEver mo_newNodes mo_newPairs mo_due mo_newOne mo_newFrom mo_newTo mo_marks mo_drawing mo_leftOf_3 mo_wayMany_4 mo_wayAt_5 mo_bitsNow_49 mo_passages_50 mo_astray_51 mo_loops_52 mo_steps_53 mo_reached_54 mo_others_55 (f_X6_mix (f_X6_mix mo_h_o15 ((r37).toInt64)) ((r48).toInt64))) (wdM cI cJ ad mo_pageLength mo_page mo_nodes mo_links mo_fromOf mo_toOf mo_width mo_drawn mo_seed mo_bundleOf mo_netsRead mo_sent mo_passagesEver mo_astrayEver mo_loopsEver mo_newNodes mo_newPairs mo_due mo_newOne mo_newFrom mo_newTo mo_marks mo_drawing mo_leftOf_3 mo_wayMany_4 mo_wayAt_5 mo_bitsNow_49 mo_passages_50 mo_astray_51 mo_loops_52 mo_steps_53 mo_reached_54 mo_others_55 (f_X6_mix (f_X6_mix mo_h_o15 ((r37).toInt64)) ((r48).toInt64))) := fr_self hP hD hS hA
  refine kV F hS (rV (q := (RX6, TX6, 34)) (As := [.long ((r48).toInt64)]) (rest := []) ⟨hx, hb, hml, hown, hts⟩ hK hN F (c_X6_mix l D cI cJ ad _ (mo_pageLength := mo_pageLength) (mo_page := mo_page) (mo_nodes := mo_nodes) (mo_links := mo_links) (mo_fromOf := mo_fromOf) (mo_toOf := mo_toOf) (mo_width := mo_width) (mo_drawn := mo_drawn) (mo_seed := mo_seed) (mo_bundleOf := mo_bundleOf) (mo_netsRead := mo_netsRead) (mo_sent := mo_sent) (mo_passagesEver := mo_passagesEver) (mo_astrayEver := mo_astrayEver) (mo_loopsEver := mo_loopsEver) (mo_newNodes := mo_newNodes) (mo_newPairs := mo_newPairs) (mo_due := mo_due) (mo_newOne := mo_newOne) (mo_newFrom := mo_newFrom) (mo_newTo := mo_newTo) (mo_marks := mo_marks) (mo_drawing := mo_drawing) (mo_leftOf := mo_leftOf_3) (mo_wayMany := mo_wayMany_4) (mo_wayAt := mo_wayAt_5) (mo_bitsNow := mo_bitsNow_49) (mo_passages := mo_passages_50) (mo_astray := mo_astray_51) (mo_loops := mo_loops_52) (mo_steps := mo_steps_53) (mo_reached := mo_reached_54) (mo_others := mo_others_55) (mo_h := (f_X6_mix mo_h_o15 ((r37).toInt64))) ((r48).toInt64) (o_mo_h := (f_X6_mix (f_X6_mix mo_h_o15 ((r37).toInt64)) ((r48).toInt64))) rfl) (cwV 1 hts gX6_mixNode_X6_mix rfl rfl rfl (by decide +kernel) ⟨Nat.le_of_ble_eq_true rfl, Nat.le_of_ble_eq_true rfl⟩) (ci := 6) rfl rfl rfl hl.1 rfl (Nat.le_of_ble_eq_true rfl) dX6_mixNode_89 ⟨Nat.zero_le _, Nat.zero_le _⟩) (fun H locs hP hD hS => ?_)
  cases hf
  exact hret _ _ _ _ dX6_mixNode_92 hP hD hS
