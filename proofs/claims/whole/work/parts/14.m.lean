def f_X5_set (gr_links : Int32) (mk_width : Int32) (mk_drawn : Int32) (mk_seed : Int32) (mk_nextSeed : Int64) (mk_bits : Nat → Int64) (x1 : Int32) (x2 : Int32) : Option (Int32 × Int32 × Int32 × Int32 × Int64 × (Nat → Int64)) :=
  if (f_X3_allows x1 x2) = (0 : Int32) then
    some ((-1002 : Int32), mk_width, mk_drawn, mk_seed, mk_nextSeed, mk_bits)
  else
    Option.bind (f_X3_drawAll ((f_X3_change mk_width mk_drawn mk_seed x1 x2).1) ((f_X3_change mk_width mk_drawn mk_seed x1 x2).2.1) ((f_X3_change mk_width mk_drawn mk_seed x1 x2).2.2) mk_bits (f_X2_linkCount gr_links)) fun (mk_nextSeed_7, mk_bits_8) =>
    some ((f_X3_setting mk_width mk_drawn mk_seed x1), (f_X3_change mk_width mk_drawn mk_seed x1 x2).1, (f_X3_change mk_width mk_drawn mk_seed x1 x2).2.1, (f_X3_change mk_width mk_drawn mk_seed x1 x2).2.2, mk_nextSeed_7, mk_bits_8)
abbrev rm_X5_set : Room := { frames := 3, cells := 0, slots := 0, locals := 66 }
set_option maxHeartbeats 4000000 in
set_option maxRecDepth 100000 in
theorem c_X5_set (l : Launch) (D : va_G) (cI cJ : ClassId) (ad : Nat → Nat) (sz : Nat) {xx_netsRead xx_timesSent xx_passagesSent xx_astraySent xx_loopsSent : Int32} {pg_codes : Nat → Int32} {pg_length gr_nodes gr_links : Int32} {gr_start gr_end gr_linkBetween gr_wayLength gr_wayNext gr_wayLinks : Nat → Int32} {mk_width mk_drawn mk_seed : Int32} {mk_nextSeed : Int64} {mk_bits : Nat → Int64} {bn_links : Nat → Int32} {fl_foldBits fl_passages fl_astray fl_loops fl_steps fl_reached fl_matchingAside : Int32} (x1 : Int32) (x2 : Int32) {o_res : Int32} {o_mk_width : Int32} {o_mk_drawn : Int32} {o_mk_seed : Int32} {o_mk_nextSeed : Int64} {o_mk_bits : Nat → Int64} (hf : f_X5_set gr_links mk_width mk_drawn mk_seed mk_nextSeed mk_bits x1 x2 = some (o_res, o_mk_width, o_mk_drawn, o_mk_seed, o_mk_nextSeed, o_mk_bits)) : CtI l yX5_set wsX5_set rm_X5_set D cI cJ [.ref (ad 0), .int x1, .int x2] (wdX cI cJ ad xx_netsRead xx_timesSent xx_passagesSent xx_astraySent xx_loopsSent pg_codes pg_length gr_nodes gr_links gr_start gr_end gr_linkBetween gr_wayLength gr_wayNext gr_wayLinks mk_width mk_drawn mk_seed mk_nextSeed mk_bits bn_links fl_foldBits fl_passages fl_astray fl_loops fl_steps fl_reached fl_matchingAside) sz o_res (wdX cI cJ ad xx_netsRead xx_timesSent xx_passagesSent xx_astraySent xx_loopsSent pg_codes pg_length gr_nodes gr_links gr_start gr_end gr_linkBetween gr_wayLength gr_wayNext gr_wayLinks o_mk_width o_mk_drawn o_mk_seed o_mk_nextSeed o_mk_bits bn_links fl_foldBits fl_passages fl_astray fl_loops fl_steps fl_reached fl_matchingAside) := by
  refine ctI_of (cc := cX5_set) (maxL := 4) (by decide) rfl (Nat.le_of_ble_eq_true rfl) ?_
  intro p e s m below meth c Q A hx hb hml hown hts hK hN hA hret ls hl hP hD hS
  obtain ⟨args, hargs⟩ : ∃ a : Array Value, a = [.ref (ad 0), .int x1, .int x2].toArray := ⟨_, rfl⟩
  rw [← hargs] at hts hret ⊢
  have hown : s.vm.findClass RX5 = some m.cls := hown
  have hl : lv_has ls 4 [(0, .ref (ad 0)), (1, .int x1), (2, .int x2)] := hl
  have hin_X5 : ∀ w ∈ wsX50, w ∈ wsX5_set := fun _ h => List.mem_cons_of_mem _ (List.mem_append_left _ (List.mem_append_left _ (List.mem_append_right _ h)))
  have fl_19 : (Cond.fieldLink RX5 19 "FoldedWays" "graph" "LFoldedWays$Graph;").before args s = true := hat hts 2 rfl
  have fl_26 : (Cond.fieldLink RX5 26 "FoldedWays" "marks" "LFoldedWays$Marks;").before args s = true := hat hts 1 rfl
  unfold f_X5_set at hf
  refine lv_aload_n hx hb dX5_set_0 rfl (lv_at hl 0 rfl) ?_
  refine va_get (ci := 5) (v := .ref (ad 10)) (C := RX5) (T := TX5) (N := 10) hx hb hts hin_X5 hown hK hP 0 rfl rfl 2 (by decide) fl_26 (fun _ h9 => h9) rfl dX5_set_1 ?_
  refine lv_iload_n hx hb dX5_set_4 rfl (lv_at hl 1 rfl) ?_
  refine lv_iload_n hx hb dX5_set_5 rfl (lv_at hl 2 rfl) ?_
  have F : Fr D A _ (wdK cI cJ ad mk_width mk_drawn mk_seed mk_nextSeed mk_bits) (wdK cI cJ ad mk_width mk_drawn mk_seed mk_nextSeed mk_bits) (wdX cI cJ ad xx_netsRead xx_timesSent xx_passagesSent xx_astraySent xx_loopsSent pg_codes pg_length gr_nodes gr_links gr_start gr_end gr_linkBetween gr_wayLength gr_wayNext gr_wayLinks mk_width mk_drawn mk_seed mk_nextSeed mk_bits bn_links fl_foldBits fl_passages fl_astray fl_loops fl_steps fl_reached fl_matchingAside) := fr_X_K hP hD hS hA
  refine kZ F hS (rV (q := (RX3, TX3, 5)) (As := [.int x1, .int x2]) (rest := []) ⟨hx, hb, hml, hown, hts⟩ hK hN F (c_X3_allows l D cI cJ ad _ (mk_width := mk_width) (mk_drawn := mk_drawn) (mk_seed := mk_seed) (mk_nextSeed := mk_nextSeed) (mk_bits := mk_bits) x1 x2 (o_res := (f_X3_allows x1 x2)) rfl) (cwV 2 hts gX5_set_X3_allows rfl rfl rfl (by decide +kernel) ⟨Nat.le_of_ble_eq_true rfl, Nat.le_of_ble_eq_true rfl⟩) (ci := 3) rfl rfl rfl hl.1 rfl (Nat.le_of_ble_eq_true rfl) dX5_set_6 ⟨Nat.zero_le _, Nat.zero_le _⟩) (fun H locs hb1 hP hD hS => ?_)
  refine lv_if_ne (tgt := 16) hx hb dX5_set_9 (by decide) (fun c2 => ?_) (fun c2 => ?_)
  · have hf := oo_f hf c2
    refine lv_aload_n hx hb dX5_set_16 rfl (lv_at hl 0 rfl) ?_
    refine va_get (ci := 5) (v := .ref (ad 10)) (C := RX5) (T := TX5) (N := 10) hx hb hts hin_X5 hown hK hP 0 rfl rfl 2 (by decide) fl_26 (fun _ h9 => h9) rfl dX5_set_17 ?_
    refine lv_iload_n hx hb dX5_set_20 rfl (lv_at hl 1 rfl) ?_
    have F : Fr D A _ (wdK cI cJ ad mk_width mk_drawn mk_seed mk_nextSeed mk_bits) (wdK cI cJ ad mk_width mk_drawn mk_seed mk_nextSeed mk_bits) (wdX cI cJ ad xx_netsRead xx_timesSent xx_passagesSent xx_astraySent xx_loopsSent pg_codes pg_length gr_nodes gr_links gr_start gr_end gr_linkBetween gr_wayLength gr_wayNext gr_wayLinks mk_width mk_drawn mk_seed mk_nextSeed mk_bits bn_links fl_foldBits fl_passages fl_astray fl_loops fl_steps fl_reached fl_matchingAside) := fr_X_K hP hD hS hA
    refine kI F hS (rV (q := (RX3, TX3, 5)) (As := [.int x1]) (rest := []) ⟨hx, hb, hml, hown, hts⟩ hK hN F (c_X3_setting l D cI cJ ad _ (mk_width := mk_width) (mk_drawn := mk_drawn) (mk_seed := mk_seed) (mk_nextSeed := mk_nextSeed) (mk_bits := mk_bits) x1 (o_res := (f_X3_setting mk_width mk_drawn mk_seed x1)) rfl) (cwV 1 hts gX5_set_X3_setting rfl rfl rfl (by decide +kernel) ⟨Nat.le_of_ble_eq_true rfl, Nat.le_of_ble_eq_true rfl⟩) (ci := 3) rfl rfl rfl hl.1 rfl (Nat.le_of_ble_eq_true rfl) dX5_set_21 ⟨Nat.zero_le _, Nat.zero_le _⟩) (fun H locs hP hD hS => ?_)
    refine lv_istore_n (lv' := [(3, .int (f_X3_setting mk_width mk_drawn mk_seed x1)), (0, .ref (ad 0)), (1, .int x1), (2, .int x2)]) hx hb dX5_set_24 rfl hl (by decide) rfl (fun ls hl => ?_)
    refine lv_aload_n hx hb dX5_set_25 rfl (lv_at hl 1 rfl) ?_
    refine va_get (ci := 5) (v := .ref (ad 10)) (C := RX5) (T := TX5) (N := 10) hx hb hts hin_X5 hown hK hP 0 rfl rfl 2 (by decide) fl_26 (fun _ h9 => h9) rfl dX5_set_26 ?_
    refine lv_iload_n hx hb dX5_set_29 rfl (lv_at hl 2 rfl) ?_
    refine lv_iload_n hx hb dX5_set_30 rfl (lv_at hl 3 rfl) ?_
    have F : Fr D A _ (wdK cI cJ ad mk_width mk_drawn mk_seed mk_nextSeed mk_bits) (wdK cI cJ ad ((f_X3_change mk_width mk_drawn mk_seed x1 x2).1) ((f_X3_change mk_width mk_drawn mk_seed x1 x2).2.1) ((f_X3_change mk_width mk_drawn mk_seed x1 x2).2.2) mk_nextSeed mk_bits) (wdX cI cJ ad xx_netsRead xx_timesSent xx_passagesSent xx_astraySent xx_loopsSent pg_codes pg_length gr_nodes gr_links gr_start gr_end gr_linkBetween gr_wayLength gr_wayNext gr_wayLinks ((f_X3_change mk_width mk_drawn mk_seed x1 x2).1) ((f_X3_change mk_width mk_drawn mk_seed x1 x2).2.1) ((f_X3_change mk_width mk_drawn mk_seed x1 x2).2.2) mk_nextSeed mk_bits bn_links fl_foldBits fl_passages fl_astray fl_loops fl_steps fl_reached fl_matchingAside) := fr_X_K hP hD hS hA
    refine kV F hS (rV (q := (RX3, TX3, 5)) (As := [.int x1, .int x2]) (rest := []) ⟨hx, hb, hml, hown, hts⟩ hK hN F (c_X3_change l D cI cJ ad _ (mk_width := mk_width) (mk_drawn := mk_drawn) (mk_seed := mk_seed) (mk_nextSeed := mk_nextSeed) (mk_bits := mk_bits) x1 x2 (o_mk_width := (f_X3_change mk_width mk_drawn mk_seed x1 x2).1) (o_mk_drawn := (f_X3_change mk_width mk_drawn mk_seed x1 x2).2.1) (o_mk_seed := (f_X3_change mk_width mk_drawn mk_seed x1 x2).2.2) rfl) (cwV 2 hts gX5_set_X3_change rfl rfl rfl (by decide +kernel) ⟨Nat.le_of_ble_eq_true rfl, Nat.le_of_ble_eq_true rfl⟩) (ci := 3) rfl rfl rfl hl.1 rfl (Nat.le_of_ble_eq_true rfl) dX5_set_31 ⟨Nat.zero_le _, Nat.zero_le _⟩) (fun H locs hP hD hS => ?_)
    refine lv_aload_n hx hb dX5_set_34 rfl (lv_at hl 1 rfl) ?_
    refine va_get (ci := 5) (v := .ref (ad 10)) (C := RX5) (T := TX5) (N := 10) hx hb hts hin_X5 hown hK hP 0 rfl rfl 2 (by decide) fl_26 (fun _ h9 => h9) rfl dX5_set_35 ?_
    refine lv_aload_n hx hb dX5_set_38 rfl (lv_at hl 1 rfl) ?_
    refine va_get (ci := 5) (v := .ref (ad 3)) (C := RX5) (T := TX5) (N := 10) hx hb hts hin_X5 hown hK hP 0 rfl rfl 1 (by decide) fl_19 (fun _ h9 => h9) rfl dX5_set_39 ?_
    have F : Fr D A _ (wdG cI cJ ad gr_nodes gr_links gr_start gr_end gr_linkBetween gr_wayLength gr_wayNext gr_wayLinks) (wdG cI cJ ad gr_nodes gr_links gr_start gr_end gr_linkBetween gr_wayLength gr_wayNext gr_wayLinks) (wdX cI cJ ad xx_netsRead xx_timesSent xx_passagesSent xx_astraySent xx_loopsSent pg_codes pg_length gr_nodes gr_links gr_start gr_end gr_linkBetween gr_wayLength gr_wayNext gr_wayLinks ((f_X3_change mk_width mk_drawn mk_seed x1 x2).1) ((f_X3_change mk_width mk_drawn mk_seed x1 x2).2.1) ((f_X3_change mk_width mk_drawn mk_seed x1 x2).2.2) mk_nextSeed mk_bits bn_links fl_foldBits fl_passages fl_astray fl_loops fl_steps fl_reached fl_matchingAside) := fr_X_G hP hD hS hA
    refine kI F hS (rV (q := (RX2, TX2, 8)) (As := []) (rest := [.ref (ad 10)]) ⟨hx, hb, hml, hown, hts⟩ hK hN F (c_X2_linkCount l D cI cJ ad _ (gr_nodes := gr_nodes) (gr_links := gr_links) (gr_start := gr_start) (gr_end := gr_end) (gr_linkBetween := gr_linkBetween) (gr_wayLength := gr_wayLength) (gr_wayNext := gr_wayNext) (gr_wayLinks := gr_wayLinks)  (o_res := (f_X2_linkCount gr_links)) rfl) (cwV 0 hts gX5_set_X2_linkCount rfl rfl rfl (by decide +kernel) ⟨Nat.le_of_ble_eq_true rfl, Nat.le_of_ble_eq_true rfl⟩) (ci := 2) rfl rfl rfl hl.1 rfl (Nat.le_of_ble_eq_true rfl) dX5_set_42 ⟨Nat.zero_le _, Nat.zero_le _⟩) (fun H locs hP hD hS => ?_)
    obtain ⟨⟨mk_nextSeed_7, mk_bits_8⟩, h6, hf⟩ := oo_b hf
    try dsimp only at hf
    have F : Fr D A _ (wdK cI cJ ad ((f_X3_change mk_width mk_drawn mk_seed x1 x2).1) ((f_X3_change mk_width mk_drawn mk_seed x1 x2).2.1) ((f_X3_change mk_width mk_drawn mk_seed x1 x2).2.2) mk_nextSeed mk_bits) (wdK cI cJ ad ((f_X3_change mk_width mk_drawn mk_seed x1 x2).1) ((f_X3_change mk_width mk_drawn mk_seed x1 x2).2.1) ((f_X3_change mk_width mk_drawn mk_seed x1 x2).2.2) mk_nextSeed_7 mk_bits_8) (wdX cI cJ ad xx_netsRead xx_timesSent xx_passagesSent xx_astraySent xx_loopsSent pg_codes pg_length gr_nodes gr_links gr_start gr_end gr_linkBetween gr_wayLength gr_wayNext gr_wayLinks ((f_X3_change mk_width mk_drawn mk_seed x1 x2).1) ((f_X3_change mk_width mk_drawn mk_seed x1 x2).2.1) ((f_X3_change mk_width mk_drawn mk_seed x1 x2).2.2) mk_nextSeed_7 mk_bits_8 bn_links fl_foldBits fl_passages fl_astray fl_loops fl_steps fl_reached fl_matchingAside) := fr_X_K hP hD hS hA
    refine kV F hS (rV (q := (RX3, TX3, 5)) (As := [.int (f_X2_linkCount gr_links)]) (rest := []) ⟨hx, hb, hml, hown, hts⟩ hK hN F (c_X3_drawAll l D cI cJ ad _ (mk_width := ((f_X3_change mk_width mk_drawn mk_seed x1 x2).1)) (mk_drawn := ((f_X3_change mk_width mk_drawn mk_seed x1 x2).2.1)) (mk_seed := ((f_X3_change mk_width mk_drawn mk_seed x1 x2).2.2)) (mk_nextSeed := mk_nextSeed) (mk_bits := mk_bits) (f_X2_linkCount gr_links) (o_mk_nextSeed := mk_nextSeed_7) (o_mk_bits := mk_bits_8) h6) (cwV 1 hts gX5_set_X3_drawAll rfl rfl rfl (by decide +kernel) ⟨Nat.le_of_ble_eq_true rfl, Nat.le_of_ble_eq_true rfl⟩) (ci := 3) rfl rfl rfl hl.1 rfl (Nat.le_of_ble_eq_true rfl) dX5_set_45 ⟨Nat.zero_le _, Nat.zero_le _⟩) (fun H locs hP hD hS => ?_)
    refine lv_iload_n hx hb dX5_set_48 rfl (lv_at hl 0 rfl) ?_
    cases hf
    exact hret _ _ _ _ dX5_set_49 hP hD hS
  · have hf := oo_t hf c2
    refine lv_sipush (v := (-1002 : Int32)) hx hb dX5_set_12 (by decide) ?_
    cases hf
    exact hret _ _ _ _ dX5_set_15 hP hD hS
def f_X5_mark (gr_links : Int32) (mk_bits : Nat → Int64) (x1 : Int32) (x2 : Int32) : Option (Int64) :=
  if (f_X2_hasLink gr_links x1) = (0 : Int32) then
    some (-1001 : Int64)
  else
    if (f_X5_isVariant x2) = (0 : Int32) then
      some (-1002 : Int64)
    else
      Option.bind (f_X3_ofLink mk_bits x1 x2) fun r6 =>
      some r6
abbrev rm_X5_mark : Room := { frames := 2, cells := 0, slots := 0, locals := 42 }
set_option maxHeartbeats 4000000 in
set_option maxRecDepth 100000 in
theorem c_X5_mark (l : Launch) (D : va_G) (cI cJ : ClassId) (ad : Nat → Nat) (sz : Nat) {xx_netsRead xx_timesSent xx_passagesSent xx_astraySent xx_loopsSent : Int32} {pg_codes : Nat → Int32} {pg_length gr_nodes gr_links : Int32} {gr_start gr_end gr_linkBetween gr_wayLength gr_wayNext gr_wayLinks : Nat → Int32} {mk_width mk_drawn mk_seed : Int32} {mk_nextSeed : Int64} {mk_bits : Nat → Int64} {bn_links : Nat → Int32} {fl_foldBits fl_passages fl_astray fl_loops fl_steps fl_reached fl_matchingAside : Int32} (x1 : Int32) (x2 : Int32) {o_res : Int64} (hf : f_X5_mark gr_links mk_bits x1 x2 = some o_res) : CtL l yX5_mark wsX5_mark rm_X5_mark D cI cJ [.ref (ad 0), .int x1, .int x2] (wdX cI cJ ad xx_netsRead xx_timesSent xx_passagesSent xx_astraySent xx_loopsSent pg_codes pg_length gr_nodes gr_links gr_start gr_end gr_linkBetween gr_wayLength gr_wayNext gr_wayLinks mk_width mk_drawn mk_seed mk_nextSeed mk_bits bn_links fl_foldBits fl_passages fl_astray fl_loops fl_steps fl_reached fl_matchingAside) sz o_res (wdX cI cJ ad xx_netsRead xx_timesSent xx_passagesSent xx_astraySent xx_loopsSent pg_codes pg_length gr_nodes gr_links gr_start gr_end gr_linkBetween gr_wayLength gr_wayNext gr_wayLinks mk_width mk_drawn mk_seed mk_nextSeed mk_bits bn_links fl_foldBits fl_passages fl_astray fl_loops fl_steps fl_reached fl_matchingAside) := by
  refine ctL_of (cc := cX5_mark) (maxL := 3) (by decide) rfl (Nat.le_of_ble_eq_true rfl) ?_
  intro p e s m below meth c Q A hx hb hml hown hts hK hN hA hret ls hl hP hD hS
  obtain ⟨args, hargs⟩ : ∃ a : Array Value, a = [.ref (ad 0), .int x1, .int x2].toArray := ⟨_, rfl⟩
  rw [← hargs] at hts hret ⊢
  have hown : s.vm.findClass RX5 = some m.cls := hown
  have hl : lv_has ls 3 [(0, .ref (ad 0)), (1, .int x1), (2, .int x2)] := hl
  have hin_X5 : ∀ w ∈ wsX50, w ∈ wsX5_mark := fun _ h => List.mem_cons_of_mem _ (List.mem_append_left _ (List.mem_append_left _ (List.mem_append_right _ h)))
  have fl_19 : (Cond.fieldLink RX5 19 "FoldedWays" "graph" "LFoldedWays$Graph;").before args s = true := hat hts 1 rfl
  have fl_26 : (Cond.fieldLink RX5 26 "FoldedWays" "marks" "LFoldedWays$Marks;").before args s = true := hat hts 4 rfl
  unfold f_X5_mark at hf
  refine lv_aload_n hx hb dX5_mark_0 rfl (lv_at hl 0 rfl) ?_
  refine va_get (ci := 5) (v := .ref (ad 3)) (C := RX5) (T := TX5) (N := 10) hx hb hts hin_X5 hown hK hP 0 rfl rfl 1 (by decide) fl_19 (fun _ h9 => h9) rfl dX5_mark_1 ?_
  refine lv_iload_n hx hb dX5_mark_4 rfl (lv_at hl 1 rfl) ?_
  have F : Fr D A _ (wdG cI cJ ad gr_nodes gr_links gr_start gr_end gr_linkBetween gr_wayLength gr_wayNext gr_wayLinks) (wdG cI cJ ad gr_nodes gr_links gr_start gr_end gr_linkBetween gr_wayLength gr_wayNext gr_wayLinks) (wdX cI cJ ad xx_netsRead xx_timesSent xx_passagesSent xx_astraySent xx_loopsSent pg_codes pg_length gr_nodes gr_links gr_start gr_end gr_linkBetween gr_wayLength gr_wayNext gr_wayLinks mk_width mk_drawn mk_seed mk_nextSeed mk_bits bn_links fl_foldBits fl_passages fl_astray fl_loops fl_steps fl_reached fl_matchingAside) := fr_X_G hP hD hS hA
  refine kZ F hS (rV (q := (RX2, TX2, 8)) (As := [.int x1]) (rest := []) ⟨hx, hb, hml, hown, hts⟩ hK hN F (c_X2_hasLink l D cI cJ ad _ (gr_nodes := gr_nodes) (gr_links := gr_links) (gr_start := gr_start) (gr_end := gr_end) (gr_linkBetween := gr_linkBetween) (gr_wayLength := gr_wayLength) (gr_wayNext := gr_wayNext) (gr_wayLinks := gr_wayLinks) x1 (o_res := (f_X2_hasLink gr_links x1)) rfl) (cwV 1 hts gX5_mark_X2_hasLink rfl rfl rfl (by decide +kernel) ⟨Nat.le_of_ble_eq_true rfl, Nat.le_of_ble_eq_true rfl⟩) (ci := 2) rfl rfl rfl hl.1 rfl (Nat.le_of_ble_eq_true rfl) dX5_mark_5 ⟨Nat.zero_le _, Nat.zero_le _⟩) (fun H locs hb1 hP hD hS => ?_)
  refine lv_if_ne (tgt := 15) hx hb dX5_mark_8 (by decide) (fun c2 => ?_) (fun c2 => ?_)
  · have hf := oo_f hf c2
    refine lv_iload_n hx hb dX5_mark_15 rfl (lv_at hl 2 rfl) ?_
    have F : Fr D A _ [] [] (wdX cI cJ ad xx_netsRead xx_timesSent xx_passagesSent xx_astraySent xx_loopsSent pg_codes pg_length gr_nodes gr_links gr_start gr_end gr_linkBetween gr_wayLength gr_wayNext gr_wayLinks mk_width mk_drawn mk_seed mk_nextSeed mk_bits bn_links fl_foldBits fl_passages fl_astray fl_loops fl_steps fl_reached fl_matchingAside) := fr_nil hP hD hS hA
    refine kZ F hS (rS (As := [.int x2]) (rest := []) ⟨hx, hb, hml, hown, hts⟩ hK hN F (c_X5_isVariant l D cI cJ ad _  x2 (o_res := (f_X5_isVariant x2)) rfl) (cwS 1 hts gX5_mark_X5_isVariant rfl rfl rfl (by decide +kernel) ⟨Nat.le_of_ble_eq_true rfl, Nat.le_of_ble_eq_true rfl⟩) rfl hl.1 rfl (Nat.le_of_ble_eq_true rfl) dX5_mark_16 ⟨Nat.zero_le _, Nat.zero_le _⟩) (fun H locs hb3 hP hD hS => ?_)
    refine lv_if_ne (tgt := 26) hx hb dX5_mark_19 (by decide) (fun c4 => ?_) (fun c4 => ?_)
    · have hf := oo_f hf c4
      refine lv_aload_n hx hb dX5_mark_26 rfl (lv_at hl 0 rfl) ?_
      refine va_get (ci := 5) (v := .ref (ad 10)) (C := RX5) (T := TX5) (N := 10) hx hb hts hin_X5 hown hK hP 0 rfl rfl 2 (by decide) fl_26 (fun _ h9 => h9) rfl dX5_mark_27 ?_
      refine lv_iload_n hx hb dX5_mark_30 rfl (lv_at hl 1 rfl) ?_
      refine lv_iload_n hx hb dX5_mark_31 rfl (lv_at hl 2 rfl) ?_
      obtain ⟨r6, h5, hf⟩ := oo_b hf
      try dsimp only at hf
      have F : Fr D A _ (wdK cI cJ ad mk_width mk_drawn mk_seed mk_nextSeed mk_bits) (wdK cI cJ ad mk_width mk_drawn mk_seed mk_nextSeed mk_bits) (wdX cI cJ ad xx_netsRead xx_timesSent xx_passagesSent xx_astraySent xx_loopsSent pg_codes pg_length gr_nodes gr_links gr_start gr_end gr_linkBetween gr_wayLength gr_wayNext gr_wayLinks mk_width mk_drawn mk_seed mk_nextSeed mk_bits bn_links fl_foldBits fl_passages fl_astray fl_loops fl_steps fl_reached fl_matchingAside) := fr_X_K hP hD hS hA
      refine kL F hS (rV (q := (RX3, TX3, 5)) (As := [.int x1, .int x2]) (rest := []) ⟨hx, hb, hml, hown, hts⟩ hK hN F (c_X3_ofLink l D cI cJ ad _ (mk_width := mk_width) (mk_drawn := mk_drawn) (mk_seed := mk_seed) (mk_nextSeed := mk_nextSeed) (mk_bits := mk_bits) x1 x2 (o_res := r6) h5) (cwV 2 hts gX5_mark_X3_ofLink rfl rfl rfl (by decide +kernel) ⟨Nat.le_of_ble_eq_true rfl, Nat.le_of_ble_eq_true rfl⟩) (ci := 3) rfl rfl rfl hl.1 rfl (Nat.le_of_ble_eq_true rfl) dX5_mark_32 ⟨Nat.zero_le _, Nat.zero_le _⟩) (fun H locs hP hD hS => ?_)
      cases hf
      exact hret _ _ _ _ dX5_mark_35 hP hD hS
    · have hf := oo_t hf c4
      refine lv_ldc2 (v := (-1002 : Int64)) hx hb hown (hat hts 3 rfl) dX5_mark_22 ?_
      cases hf
      exact hret _ _ _ _ dX5_mark_25 hP hD hS
  · have hf := oo_t hf c2
    refine lv_ldc2 (v := (-1001 : Int64)) hx hb hown (hat hts 2 rfl) dX5_mark_11 ?_
    cases hf
    exact hret _ _ _ _ dX5_mark_14 hP hD hS
def f_X5_link (gr_links : Int32) (gr_start : Nat → Int32) (gr_end : Nat → Int32) (bn_links : Nat → Int32) (x1 : Int32) (x2 : Int32) : Option (Int32) :=
  if (f_X2_hasLink gr_links x1) = (0 : Int32) then
    some (-1001 : Int32)
  else
    if x2 = (0 : Int32) then
      Option.bind (f_X2_startOf gr_start x1) fun r6 =>
      some r6
    else
      if x2 = (1 : Int32) then
        Option.bind (f_X2_endOf gr_end x1) fun r10 =>
        some r10
      else
        if x2 = (2 : Int32) then
          Option.bind (f_X0_placesWith bn_links x1) fun r14 =>
          some r14
        else
          some (-1002 : Int32)
abbrev rm_X5_link : Room := { frames := 1, cells := 0, slots := 0, locals := 23 }
set_option maxHeartbeats 4000000 in
set_option maxRecDepth 100000 in
theorem c_X5_link (l : Launch) (D : va_G) (cI cJ : ClassId) (ad : Nat → Nat) (sz : Nat) {xx_netsRead xx_timesSent xx_passagesSent xx_astraySent xx_loopsSent : Int32} {pg_codes : Nat → Int32} {pg_length gr_nodes gr_links : Int32} {gr_start gr_end gr_linkBetween gr_wayLength gr_wayNext gr_wayLinks : Nat → Int32} {mk_width mk_drawn mk_seed : Int32} {mk_nextSeed : Int64} {mk_bits : Nat → Int64} {bn_links : Nat → Int32} {fl_foldBits fl_passages fl_astray fl_loops fl_steps fl_reached fl_matchingAside : Int32} (x1 : Int32) (x2 : Int32) {o_res : Int32} (hf : f_X5_link gr_links gr_start gr_end bn_links x1 x2 = some o_res) : CtI l yX5_link wsX5_link rm_X5_link D cI cJ [.ref (ad 0), .int x1, .int x2] (wdX cI cJ ad xx_netsRead xx_timesSent xx_passagesSent xx_astraySent xx_loopsSent pg_codes pg_length gr_nodes gr_links gr_start gr_end gr_linkBetween gr_wayLength gr_wayNext gr_wayLinks mk_width mk_drawn mk_seed mk_nextSeed mk_bits bn_links fl_foldBits fl_passages fl_astray fl_loops fl_steps fl_reached fl_matchingAside) sz o_res (wdX cI cJ ad xx_netsRead xx_timesSent xx_passagesSent xx_astraySent xx_loopsSent pg_codes pg_length gr_nodes gr_links gr_start gr_end gr_linkBetween gr_wayLength gr_wayNext gr_wayLinks mk_width mk_drawn mk_seed mk_nextSeed mk_bits bn_links fl_foldBits fl_passages fl_astray fl_loops fl_steps fl_reached fl_matchingAside) := by
  refine ctI_of (cc := cX5_link) (maxL := 3) (by decide) rfl (Nat.le_of_ble_eq_true rfl) ?_
  intro p e s m below meth c Q A hx hb hml hown hts hK hN hA hret ls hl hP hD hS
  obtain ⟨args, hargs⟩ : ∃ a : Array Value, a = [.ref (ad 0), .int x1, .int x2].toArray := ⟨_, rfl⟩
  rw [← hargs] at hts hret ⊢
  have hown : s.vm.findClass RX5 = some m.cls := hown
  have hl : lv_has ls 3 [(0, .ref (ad 0)), (1, .int x1), (2, .int x2)] := hl
  have hin_X5 : ∀ w ∈ wsX50, w ∈ wsX5_link := fun _ h => List.mem_cons_of_mem _ (List.mem_append_left _ (List.mem_append_left _ (List.mem_append_right _ h)))
  have fl_19 : (Cond.fieldLink RX5 19 "FoldedWays" "graph" "LFoldedWays$Graph;").before args s = true := hat hts 1 rfl
  have fl_33 : (Cond.fieldLink RX5 33 "FoldedWays" "bundles" "LFoldedWays$Bundles;").before args s = true := hat hts 2 rfl
  unfold f_X5_link at hf
  refine lv_aload_n hx hb dX5_link_0 rfl (lv_at hl 0 rfl) ?_
  refine va_get (ci := 5) (v := .ref (ad 3)) (C := RX5) (T := TX5) (N := 10) hx hb hts hin_X5 hown hK hP 0 rfl rfl 1 (by decide) fl_19 (fun _ h9 => h9) rfl dX5_link_1 ?_
  refine lv_iload_n hx hb dX5_link_4 rfl (lv_at hl 1 rfl) ?_
  have F : Fr D A _ (wdG cI cJ ad gr_nodes gr_links gr_start gr_end gr_linkBetween gr_wayLength gr_wayNext gr_wayLinks) (wdG cI cJ ad gr_nodes gr_links gr_start gr_end gr_linkBetween gr_wayLength gr_wayNext gr_wayLinks) (wdX cI cJ ad xx_netsRead xx_timesSent xx_passagesSent xx_astraySent xx_loopsSent pg_codes pg_length gr_nodes gr_links gr_start gr_end gr_linkBetween gr_wayLength gr_wayNext gr_wayLinks mk_width mk_drawn mk_seed mk_nextSeed mk_bits bn_links fl_foldBits fl_passages fl_astray fl_loops fl_steps fl_reached fl_matchingAside) := fr_X_G hP hD hS hA
  refine kZ F hS (rV (q := (RX2, TX2, 8)) (As := [.int x1]) (rest := []) ⟨hx, hb, hml, hown, hts⟩ hK hN F (c_X2_hasLink l D cI cJ ad _ (gr_nodes := gr_nodes) (gr_links := gr_links) (gr_start := gr_start) (gr_end := gr_end) (gr_linkBetween := gr_linkBetween) (gr_wayLength := gr_wayLength) (gr_wayNext := gr_wayNext) (gr_wayLinks := gr_wayLinks) x1 (o_res := (f_X2_hasLink gr_links x1)) rfl) (cwV 1 hts gX5_link_X2_hasLink rfl rfl rfl (by decide +kernel) ⟨Nat.le_of_ble_eq_true rfl, Nat.le_of_ble_eq_true rfl⟩) (ci := 2) rfl rfl rfl hl.1 rfl (Nat.le_of_ble_eq_true rfl) dX5_link_5 ⟨Nat.zero_le _, Nat.zero_le _⟩) (fun H locs hb1 hP hD hS => ?_)
  refine lv_if_ne (tgt := 15) hx hb dX5_link_8 (by decide) (fun c2 => ?_) (fun c2 => ?_)
  · have hf := oo_f hf c2
    refine lv_iload_n hx hb dX5_link_15 rfl (lv_at hl 2 rfl) ?_
    by_cases c4 : x2 = (0 : Int32)
    · have hf := oo_t hf c4
      refine lv_tableIn (tgt := 44) hx hb dX5_link_16 (by rw [c4]; decide) (by rw [c4]; decide) (by rw [c4]; rfl) (by decide) ?_
      refine lv_aload_n hx hb dX5_link_44 rfl (lv_at hl 0 rfl) ?_
      refine va_get (ci := 5) (v := .ref (ad 3)) (C := RX5) (T := TX5) (N := 10) hx hb hts hin_X5 hown hK hP 0 rfl rfl 1 (by decide) fl_19 (fun _ h9 => h9) rfl dX5_link_45 ?_
      refine lv_iload_n hx hb dX5_link_48 rfl (lv_at hl 1 rfl) ?_
      obtain ⟨r6, h5, hf⟩ := oo_b hf
      try dsimp only at hf
      have F : Fr D A _ (wdG cI cJ ad gr_nodes gr_links gr_start gr_end gr_linkBetween gr_wayLength gr_wayNext gr_wayLinks) (wdG cI cJ ad gr_nodes gr_links gr_start gr_end gr_linkBetween gr_wayLength gr_wayNext gr_wayLinks) (wdX cI cJ ad xx_netsRead xx_timesSent xx_passagesSent xx_astraySent xx_loopsSent pg_codes pg_length gr_nodes gr_links gr_start gr_end gr_linkBetween gr_wayLength gr_wayNext gr_wayLinks mk_width mk_drawn mk_seed mk_nextSeed mk_bits bn_links fl_foldBits fl_passages fl_astray fl_loops fl_steps fl_reached fl_matchingAside) := fr_X_G hP hD hS hA
      refine kI F hS (rV (q := (RX2, TX2, 8)) (As := [.int x1]) (rest := []) ⟨hx, hb, hml, hown, hts⟩ hK hN F (c_X2_startOf l D cI cJ ad _ (gr_nodes := gr_nodes) (gr_links := gr_links) (gr_start := gr_start) (gr_end := gr_end) (gr_linkBetween := gr_linkBetween) (gr_wayLength := gr_wayLength) (gr_wayNext := gr_wayNext) (gr_wayLinks := gr_wayLinks) x1 (o_res := r6) h5) (cwV 1 hts gX5_link_X2_startOf rfl rfl rfl (by decide +kernel) ⟨Nat.le_of_ble_eq_true rfl, Nat.le_of_ble_eq_true rfl⟩) (ci := 2) rfl rfl rfl hl.1 rfl (Nat.le_of_ble_eq_true rfl) dX5_link_49 ⟨Nat.zero_le _, Nat.zero_le _⟩) (fun H locs hP hD hS => ?_)
      cases hf
      exact hret _ _ _ _ dX5_link_52 hP hD hS
    · have hf := oo_f hf c4
      by_cases c8 : x2 = (1 : Int32)
      · have hf := oo_t hf c8
        refine lv_tableIn (tgt := 53) hx hb dX5_link_16 (by rw [c8]; decide) (by rw [c8]; decide) (by rw [c8]; rfl) (by decide) ?_
        refine lv_aload_n hx hb dX5_link_53 rfl (lv_at hl 0 rfl) ?_
        refine va_get (ci := 5) (v := .ref (ad 3)) (C := RX5) (T := TX5) (N := 10) hx hb hts hin_X5 hown hK hP 0 rfl rfl 1 (by decide) fl_19 (fun _ h9 => h9) rfl dX5_link_54 ?_
        refine lv_iload_n hx hb dX5_link_57 rfl (lv_at hl 1 rfl) ?_
        obtain ⟨r10, h9, hf⟩ := oo_b hf
        try dsimp only at hf
        have F : Fr D A _ (wdG cI cJ ad gr_nodes gr_links gr_start gr_end gr_linkBetween gr_wayLength gr_wayNext gr_wayLinks) (wdG cI cJ ad gr_nodes gr_links gr_start gr_end gr_linkBetween gr_wayLength gr_wayNext gr_wayLinks) (wdX cI cJ ad xx_netsRead xx_timesSent xx_passagesSent xx_astraySent xx_loopsSent pg_codes pg_length gr_nodes gr_links gr_start gr_end gr_linkBetween gr_wayLength gr_wayNext gr_wayLinks mk_width mk_drawn mk_seed mk_nextSeed mk_bits bn_links fl_foldBits fl_passages fl_astray fl_loops fl_steps fl_reached fl_matchingAside) := fr_X_G hP hD hS hA
        refine kI F hS (rV (q := (RX2, TX2, 8)) (As := [.int x1]) (rest := []) ⟨hx, hb, hml, hown, hts⟩ hK hN F (c_X2_endOf l D cI cJ ad _ (gr_nodes := gr_nodes) (gr_links := gr_links) (gr_start := gr_start) (gr_end := gr_end) (gr_linkBetween := gr_linkBetween) (gr_wayLength := gr_wayLength) (gr_wayNext := gr_wayNext) (gr_wayLinks := gr_wayLinks) x1 (o_res := r10) h9) (cwV 1 hts gX5_link_X2_endOf rfl rfl rfl (by decide +kernel) ⟨Nat.le_of_ble_eq_true rfl, Nat.le_of_ble_eq_true rfl⟩) (ci := 2) rfl rfl rfl hl.1 rfl (Nat.le_of_ble_eq_true rfl) dX5_link_58 ⟨Nat.zero_le _, Nat.zero_le _⟩) (fun H locs hP hD hS => ?_)
        cases hf
        exact hret _ _ _ _ dX5_link_61 hP hD hS
      · have hf := oo_f hf c8
        by_cases c12 : x2 = (2 : Int32)
        · have hf := oo_t hf c12
          refine lv_tableIn (tgt := 62) hx hb dX5_link_16 (by rw [c12]; decide) (by rw [c12]; decide) (by rw [c12]; rfl) (by decide) ?_
          refine lv_aload_n hx hb dX5_link_62 rfl (lv_at hl 0 rfl) ?_
          refine va_get (ci := 5) (v := .ref (ad 12)) (C := RX5) (T := TX5) (N := 10) hx hb hts hin_X5 hown hK hP 0 rfl rfl 3 (by decide) fl_33 (fun _ h9 => h9) rfl dX5_link_63 ?_
          refine lv_iload_n hx hb dX5_link_66 rfl (lv_at hl 1 rfl) ?_
          obtain ⟨r14, h13, hf⟩ := oo_b hf
          try dsimp only at hf
          have F : Fr D A _ (wdB cI cJ ad bn_links) (wdB cI cJ ad bn_links) (wdX cI cJ ad xx_netsRead xx_timesSent xx_passagesSent xx_astraySent xx_loopsSent pg_codes pg_length gr_nodes gr_links gr_start gr_end gr_linkBetween gr_wayLength gr_wayNext gr_wayLinks mk_width mk_drawn mk_seed mk_nextSeed mk_bits bn_links fl_foldBits fl_passages fl_astray fl_loops fl_steps fl_reached fl_matchingAside) := fr_X_B hP hD hS hA
          refine kI F hS (rV (q := (RX0, TX0, 1)) (As := [.int x1]) (rest := []) ⟨hx, hb, hml, hown, hts⟩ hK hN F (c_X0_placesWith l D cI cJ ad _ (bn_links := bn_links) x1 (o_res := r14) h13) (cwV 1 hts gX5_link_X0_placesWith rfl rfl rfl (by decide +kernel) ⟨Nat.le_of_ble_eq_true rfl, Nat.le_of_ble_eq_true rfl⟩) (ci := 0) rfl rfl rfl hl.1 rfl (Nat.le_of_ble_eq_true rfl) dX5_link_67 ⟨Nat.zero_le _, Nat.zero_le _⟩) (fun H locs hP hD hS => ?_)
          cases hf
          exact hret _ _ _ _ dX5_link_70 hP hD hS
        · have hf := oo_f hf c12
          refine lv_tableOut (tgt := 71) hx hb dX5_link_16 (tblo_0_3 c4 c8 c12) (by decide) ?_
          refine lv_sipush (v := (-1002 : Int32)) hx hb dX5_link_71 (by decide) ?_
          cases hf
          exact hret _ _ _ _ dX5_link_74 hP hD hS
  · have hf := oo_t hf c2
    refine lv_sipush (v := (-1001 : Int32)) hx hb dX5_link_11 (by decide) ?_
    cases hf
    exact hret _ _ _ _ dX5_link_14 hP hD hS
def f_X5_way (gr_nodes : Int32) (gr_wayLength : Nat → Int32) (gr_wayNext : Nat → Int32) (x1 : Int32) (x2 : Int32) (x3 : Int32) : Option (Int32) :=
  if (f_X2_hasNode gr_nodes x1) = (0 : Int32) then
    some (-1001 : Int32)
  else
    if (f_X2_hasNode gr_nodes x2) = (0 : Int32) then
      some (-1001 : Int32)
    else
      Option.bind (f_X2_nodeOnWay gr_nodes gr_wayLength gr_wayNext x1 x2 x3) fun r6 =>
      some r6
abbrev rm_X5_way : Room := { frames := 2, cells := 0, slots := 0, locals := 46 }
set_option maxHeartbeats 4000000 in
set_option maxRecDepth 100000 in
theorem c_X5_way (l : Launch) (D : va_G) (cI cJ : ClassId) (ad : Nat → Nat) (sz : Nat) {xx_netsRead xx_timesSent xx_passagesSent xx_astraySent xx_loopsSent : Int32} {pg_codes : Nat → Int32} {pg_length gr_nodes gr_links : Int32} {gr_start gr_end gr_linkBetween gr_wayLength gr_wayNext gr_wayLinks : Nat → Int32} {mk_width mk_drawn mk_seed : Int32} {mk_nextSeed : Int64} {mk_bits : Nat → Int64} {bn_links : Nat → Int32} {fl_foldBits fl_passages fl_astray fl_loops fl_steps fl_reached fl_matchingAside : Int32} (x1 : Int32) (x2 : Int32) (x3 : Int32) {o_res : Int32} (hf : f_X5_way gr_nodes gr_wayLength gr_wayNext x1 x2 x3 = some o_res) : CtI l yX5_way wsX5_way rm_X5_way D cI cJ [.ref (ad 0), .int x1, .int x2, .int x3] (wdX cI cJ ad xx_netsRead xx_timesSent xx_passagesSent xx_astraySent xx_loopsSent pg_codes pg_length gr_nodes gr_links gr_start gr_end gr_linkBetween gr_wayLength gr_wayNext gr_wayLinks mk_width mk_drawn mk_seed mk_nextSeed mk_bits bn_links fl_foldBits fl_passages fl_astray fl_loops fl_steps fl_reached fl_matchingAside) sz o_res (wdX cI cJ ad xx_netsRead xx_timesSent xx_passagesSent xx_astraySent xx_loopsSent pg_codes pg_length gr_nodes gr_links gr_start gr_end gr_linkBetween gr_wayLength gr_wayNext gr_wayLinks mk_width mk_drawn mk_seed mk_nextSeed mk_bits bn_links fl_foldBits fl_passages fl_astray fl_loops fl_steps fl_reached fl_matchingAside) := by
  refine ctI_of (cc := cX5_way) (maxL := 4) (by decide) rfl (Nat.le_of_ble_eq_true rfl) ?_
  intro p e s m below meth c Q A hx hb hml hown hts hK hN hA hret ls hl hP hD hS
  obtain ⟨args, hargs⟩ : ∃ a : Array Value, a = [.ref (ad 0), .int x1, .int x2, .int x3].toArray := ⟨_, rfl⟩
  rw [← hargs] at hts hret ⊢
  have hown : s.vm.findClass RX5 = some m.cls := hown
  have hl : lv_has ls 4 [(0, .ref (ad 0)), (1, .int x1), (2, .int x2), (3, .int x3)] := hl
  have hin_X5 : ∀ w ∈ wsX50, w ∈ wsX5_way := fun _ h => List.mem_cons_of_mem _ (List.mem_append_left _ (List.mem_append_right _ h))
  have fl_19 : (Cond.fieldLink RX5 19 "FoldedWays" "graph" "LFoldedWays$Graph;").before args s = true := hat hts 1 rfl
  unfold f_X5_way at hf
  refine lv_aload_n hx hb dX5_way_0 rfl (lv_at hl 0 rfl) ?_
  refine va_get (ci := 5) (v := .ref (ad 3)) (C := RX5) (T := TX5) (N := 10) hx hb hts hin_X5 hown hK hP 0 rfl rfl 1 (by decide) fl_19 (fun _ h9 => h9) rfl dX5_way_1 ?_
  refine lv_iload_n hx hb dX5_way_4 rfl (lv_at hl 1 rfl) ?_
  have F : Fr D A _ (wdG cI cJ ad gr_nodes gr_links gr_start gr_end gr_linkBetween gr_wayLength gr_wayNext gr_wayLinks) (wdG cI cJ ad gr_nodes gr_links gr_start gr_end gr_linkBetween gr_wayLength gr_wayNext gr_wayLinks) (wdX cI cJ ad xx_netsRead xx_timesSent xx_passagesSent xx_astraySent xx_loopsSent pg_codes pg_length gr_nodes gr_links gr_start gr_end gr_linkBetween gr_wayLength gr_wayNext gr_wayLinks mk_width mk_drawn mk_seed mk_nextSeed mk_bits bn_links fl_foldBits fl_passages fl_astray fl_loops fl_steps fl_reached fl_matchingAside) := fr_X_G hP hD hS hA
  refine kZ F hS (rV (q := (RX2, TX2, 8)) (As := [.int x1]) (rest := []) ⟨hx, hb, hml, hown, hts⟩ hK hN F (c_X2_hasNode l D cI cJ ad _ (gr_nodes := gr_nodes) (gr_links := gr_links) (gr_start := gr_start) (gr_end := gr_end) (gr_linkBetween := gr_linkBetween) (gr_wayLength := gr_wayLength) (gr_wayNext := gr_wayNext) (gr_wayLinks := gr_wayLinks) x1 (o_res := (f_X2_hasNode gr_nodes x1)) rfl) (cwV 1 hts gX5_way_X2_hasNode rfl rfl rfl (by decide +kernel) ⟨Nat.le_of_ble_eq_true rfl, Nat.le_of_ble_eq_true rfl⟩) (ci := 2) rfl rfl rfl hl.1 rfl (Nat.le_of_ble_eq_true rfl) dX5_way_5 ⟨Nat.zero_le _, Nat.zero_le _⟩) (fun H locs hb1 hP hD hS => ?_)
  refine lv_if_eq (tgt := 22) hx hb dX5_way_8 (by decide) (fun c2 => ?_) (fun c2 => ?_)
  · have hf := oo_t hf c2
    refine lv_sipush (v := (-1001 : Int32)) hx hb dX5_way_22 (by decide) ?_
    cases hf
    exact hret _ _ _ _ dX5_way_25 hP hD hS
  · have hf := oo_f hf c2
    refine lv_aload_n hx hb dX5_way_11 rfl (lv_at hl 0 rfl) ?_
    refine va_get (ci := 5) (v := .ref (ad 3)) (C := RX5) (T := TX5) (N := 10) hx hb hts hin_X5 hown hK hP 0 rfl rfl 1 (by decide) fl_19 (fun _ h9 => h9) rfl dX5_way_12 ?_
    refine lv_iload_n hx hb dX5_way_15 rfl (lv_at hl 2 rfl) ?_
    have F : Fr D A _ (wdG cI cJ ad gr_nodes gr_links gr_start gr_end gr_linkBetween gr_wayLength gr_wayNext gr_wayLinks) (wdG cI cJ ad gr_nodes gr_links gr_start gr_end gr_linkBetween gr_wayLength gr_wayNext gr_wayLinks) (wdX cI cJ ad xx_netsRead xx_timesSent xx_passagesSent xx_astraySent xx_loopsSent pg_codes pg_length gr_nodes gr_links gr_start gr_end gr_linkBetween gr_wayLength gr_wayNext gr_wayLinks mk_width mk_drawn mk_seed mk_nextSeed mk_bits bn_links fl_foldBits fl_passages fl_astray fl_loops fl_steps fl_reached fl_matchingAside) := fr_X_G hP hD hS hA
    refine kZ F hS (rV (q := (RX2, TX2, 8)) (As := [.int x2]) (rest := []) ⟨hx, hb, hml, hown, hts⟩ hK hN F (c_X2_hasNode l D cI cJ ad _ (gr_nodes := gr_nodes) (gr_links := gr_links) (gr_start := gr_start) (gr_end := gr_end) (gr_linkBetween := gr_linkBetween) (gr_wayLength := gr_wayLength) (gr_wayNext := gr_wayNext) (gr_wayLinks := gr_wayLinks) x2 (o_res := (f_X2_hasNode gr_nodes x2)) rfl) (cwV 1 hts gX5_way_X2_hasNode rfl rfl rfl (by decide +kernel) ⟨Nat.le_of_ble_eq_true rfl, Nat.le_of_ble_eq_true rfl⟩) (ci := 2) rfl rfl rfl hl.1 rfl (Nat.le_of_ble_eq_true rfl) dX5_way_16 ⟨Nat.zero_le _, Nat.zero_le _⟩) (fun H locs hb3 hP hD hS => ?_)
    refine lv_if_ne (tgt := 26) hx hb dX5_way_19 (by decide) (fun c4 => ?_) (fun c4 => ?_)
    · have hf := oo_f hf c4
      refine lv_aload_n hx hb dX5_way_26 rfl (lv_at hl 0 rfl) ?_
      refine va_get (ci := 5) (v := .ref (ad 3)) (C := RX5) (T := TX5) (N := 10) hx hb hts hin_X5 hown hK hP 0 rfl rfl 1 (by decide) fl_19 (fun _ h9 => h9) rfl dX5_way_27 ?_
      refine lv_iload_n hx hb dX5_way_30 rfl (lv_at hl 1 rfl) ?_
      refine lv_iload_n hx hb dX5_way_31 rfl (lv_at hl 2 rfl) ?_
      refine lv_iload_n hx hb dX5_way_32 rfl (lv_at hl 3 rfl) ?_
      obtain ⟨r6, h5, hf⟩ := oo_b hf
      try dsimp only at hf
      have F : Fr D A _ (wdG cI cJ ad gr_nodes gr_links gr_start gr_end gr_linkBetween gr_wayLength gr_wayNext gr_wayLinks) (wdG cI cJ ad gr_nodes gr_links gr_start gr_end gr_linkBetween gr_wayLength gr_wayNext gr_wayLinks) (wdX cI cJ ad xx_netsRead xx_timesSent xx_passagesSent xx_astraySent xx_loopsSent pg_codes pg_length gr_nodes gr_links gr_start gr_end gr_linkBetween gr_wayLength gr_wayNext gr_wayLinks mk_width mk_drawn mk_seed mk_nextSeed mk_bits bn_links fl_foldBits fl_passages fl_astray fl_loops fl_steps fl_reached fl_matchingAside) := fr_X_G hP hD hS hA
      refine kI F hS (rV (q := (RX2, TX2, 8)) (As := [.int x1, .int x2, .int x3]) (rest := []) ⟨hx, hb, hml, hown, hts⟩ hK hN F (c_X2_nodeOnWay l D cI cJ ad _ (gr_nodes := gr_nodes) (gr_links := gr_links) (gr_start := gr_start) (gr_end := gr_end) (gr_linkBetween := gr_linkBetween) (gr_wayLength := gr_wayLength) (gr_wayNext := gr_wayNext) (gr_wayLinks := gr_wayLinks) x1 x2 x3 (o_res := r6) h5) (cwV 3 hts gX5_way_X2_nodeOnWay rfl rfl rfl (by decide +kernel) ⟨Nat.le_of_ble_eq_true rfl, Nat.le_of_ble_eq_true rfl⟩) (ci := 2) rfl rfl rfl hl.1 rfl (Nat.le_of_ble_eq_true rfl) dX5_way_33 ⟨Nat.zero_le _, Nat.zero_le _⟩) (fun H locs hP hD hS => ?_)
      cases hf
      exact hret _ _ _ _ dX5_way_36 hP hD hS
    · have hf := oo_t hf c4
      refine lv_sipush (v := (-1001 : Int32)) hx hb dX5_way_22 (by decide) ?_
      cases hf
      exact hret _ _ _ _ dX5_way_25 hP hD hS
def f_X5_tree (gr_nodes : Int32) (gr_wayLinks : Nat → Int32) (x1 : Int32) (x2 : Int32) : Option (Int32) :=
  if (f_X2_hasNode gr_nodes x1) = (0 : Int32) then
    some (-1001 : Int32)
  else
    if (f_X2_hasNodes gr_nodes x2) = (0 : Int32) then
      some (-1002 : Int32)
    else
      Option.bind (f_X2_treeLinks gr_nodes gr_wayLinks x1 x2) fun r6 =>
      some r6
abbrev rm_X5_tree : Room := { frames := 2, cells := 0, slots := 0, locals := 45 }
set_option maxHeartbeats 4000000 in
set_option maxRecDepth 100000 in
theorem c_X5_tree (l : Launch) (D : va_G) (cI cJ : ClassId) (ad : Nat → Nat) (sz : Nat) {xx_netsRead xx_timesSent xx_passagesSent xx_astraySent xx_loopsSent : Int32} {pg_codes : Nat → Int32} {pg_length gr_nodes gr_links : Int32} {gr_start gr_end gr_linkBetween gr_wayLength gr_wayNext gr_wayLinks : Nat → Int32} {mk_width mk_drawn mk_seed : Int32} {mk_nextSeed : Int64} {mk_bits : Nat → Int64} {bn_links : Nat → Int32} {fl_foldBits fl_passages fl_astray fl_loops fl_steps fl_reached fl_matchingAside : Int32} (x1 : Int32) (x2 : Int32) {o_res : Int32} (hf : f_X5_tree gr_nodes gr_wayLinks x1 x2 = some o_res) : CtI l yX5_tree wsX5_tree rm_X5_tree D cI cJ [.ref (ad 0), .int x1, .int x2] (wdX cI cJ ad xx_netsRead xx_timesSent xx_passagesSent xx_astraySent xx_loopsSent pg_codes pg_length gr_nodes gr_links gr_start gr_end gr_linkBetween gr_wayLength gr_wayNext gr_wayLinks mk_width mk_drawn mk_seed mk_nextSeed mk_bits bn_links fl_foldBits fl_passages fl_astray fl_loops fl_steps fl_reached fl_matchingAside) sz o_res (wdX cI cJ ad xx_netsRead xx_timesSent xx_passagesSent xx_astraySent xx_loopsSent pg_codes pg_length gr_nodes gr_links gr_start gr_end gr_linkBetween gr_wayLength gr_wayNext gr_wayLinks mk_width mk_drawn mk_seed mk_nextSeed mk_bits bn_links fl_foldBits fl_passages fl_astray fl_loops fl_steps fl_reached fl_matchingAside) := by
  refine ctI_of (cc := cX5_tree) (maxL := 3) (by decide) rfl (Nat.le_of_ble_eq_true rfl) ?_
  intro p e s m below meth c Q A hx hb hml hown hts hK hN hA hret ls hl hP hD hS
  obtain ⟨args, hargs⟩ : ∃ a : Array Value, a = [.ref (ad 0), .int x1, .int x2].toArray := ⟨_, rfl⟩
  rw [← hargs] at hts hret ⊢
  have hown : s.vm.findClass RX5 = some m.cls := hown
  have hl : lv_has ls 3 [(0, .ref (ad 0)), (1, .int x1), (2, .int x2)] := hl
  have hin_X5 : ∀ w ∈ wsX50, w ∈ wsX5_tree := fun _ h => List.mem_cons_of_mem _ (List.mem_append_left _ (List.mem_append_right _ h))
  have fl_19 : (Cond.fieldLink RX5 19 "FoldedWays" "graph" "LFoldedWays$Graph;").before args s = true := hat hts 1 rfl
  unfold f_X5_tree at hf
  refine lv_aload_n hx hb dX5_tree_0 rfl (lv_at hl 0 rfl) ?_
  refine va_get (ci := 5) (v := .ref (ad 3)) (C := RX5) (T := TX5) (N := 10) hx hb hts hin_X5 hown hK hP 0 rfl rfl 1 (by decide) fl_19 (fun _ h9 => h9) rfl dX5_tree_1 ?_
  refine lv_iload_n hx hb dX5_tree_4 rfl (lv_at hl 1 rfl) ?_
  have F : Fr D A _ (wdG cI cJ ad gr_nodes gr_links gr_start gr_end gr_linkBetween gr_wayLength gr_wayNext gr_wayLinks) (wdG cI cJ ad gr_nodes gr_links gr_start gr_end gr_linkBetween gr_wayLength gr_wayNext gr_wayLinks) (wdX cI cJ ad xx_netsRead xx_timesSent xx_passagesSent xx_astraySent xx_loopsSent pg_codes pg_length gr_nodes gr_links gr_start gr_end gr_linkBetween gr_wayLength gr_wayNext gr_wayLinks mk_width mk_drawn mk_seed mk_nextSeed mk_bits bn_links fl_foldBits fl_passages fl_astray fl_loops fl_steps fl_reached fl_matchingAside) := fr_X_G hP hD hS hA
  refine kZ F hS (rV (q := (RX2, TX2, 8)) (As := [.int x1]) (rest := []) ⟨hx, hb, hml, hown, hts⟩ hK hN F (c_X2_hasNode l D cI cJ ad _ (gr_nodes := gr_nodes) (gr_links := gr_links) (gr_start := gr_start) (gr_end := gr_end) (gr_linkBetween := gr_linkBetween) (gr_wayLength := gr_wayLength) (gr_wayNext := gr_wayNext) (gr_wayLinks := gr_wayLinks) x1 (o_res := (f_X2_hasNode gr_nodes x1)) rfl) (cwV 1 hts gX5_tree_X2_hasNode rfl rfl rfl (by decide +kernel) ⟨Nat.le_of_ble_eq_true rfl, Nat.le_of_ble_eq_true rfl⟩) (ci := 2) rfl rfl rfl hl.1 rfl (Nat.le_of_ble_eq_true rfl) dX5_tree_5 ⟨Nat.zero_le _, Nat.zero_le _⟩) (fun H locs hb1 hP hD hS => ?_)
  refine lv_if_ne (tgt := 15) hx hb dX5_tree_8 (by decide) (fun c2 => ?_) (fun c2 => ?_)
  · have hf := oo_f hf c2
    refine lv_aload_n hx hb dX5_tree_15 rfl (lv_at hl 0 rfl) ?_
    refine va_get (ci := 5) (v := .ref (ad 3)) (C := RX5) (T := TX5) (N := 10) hx hb hts hin_X5 hown hK hP 0 rfl rfl 1 (by decide) fl_19 (fun _ h9 => h9) rfl dX5_tree_16 ?_
    refine lv_iload_n hx hb dX5_tree_19 rfl (lv_at hl 2 rfl) ?_
    have F : Fr D A _ (wdG cI cJ ad gr_nodes gr_links gr_start gr_end gr_linkBetween gr_wayLength gr_wayNext gr_wayLinks) (wdG cI cJ ad gr_nodes gr_links gr_start gr_end gr_linkBetween gr_wayLength gr_wayNext gr_wayLinks) (wdX cI cJ ad xx_netsRead xx_timesSent xx_passagesSent xx_astraySent xx_loopsSent pg_codes pg_length gr_nodes gr_links gr_start gr_end gr_linkBetween gr_wayLength gr_wayNext gr_wayLinks mk_width mk_drawn mk_seed mk_nextSeed mk_bits bn_links fl_foldBits fl_passages fl_astray fl_loops fl_steps fl_reached fl_matchingAside) := fr_X_G hP hD hS hA
    refine kZ F hS (rV (q := (RX2, TX2, 8)) (As := [.int x2]) (rest := []) ⟨hx, hb, hml, hown, hts⟩ hK hN F (c_X2_hasNodes l D cI cJ ad _ (gr_nodes := gr_nodes) (gr_links := gr_links) (gr_start := gr_start) (gr_end := gr_end) (gr_linkBetween := gr_linkBetween) (gr_wayLength := gr_wayLength) (gr_wayNext := gr_wayNext) (gr_wayLinks := gr_wayLinks) x2 (o_res := (f_X2_hasNodes gr_nodes x2)) rfl) (cwV 1 hts gX5_tree_X2_hasNodes rfl rfl rfl (by decide +kernel) ⟨Nat.le_of_ble_eq_true rfl, Nat.le_of_ble_eq_true rfl⟩) (ci := 2) rfl rfl rfl hl.1 rfl (Nat.le_of_ble_eq_true rfl) dX5_tree_20 ⟨Nat.zero_le _, Nat.zero_le _⟩) (fun H locs hb3 hP hD hS => ?_)
    refine lv_if_ne (tgt := 30) hx hb dX5_tree_23 (by decide) (fun c4 => ?_) (fun c4 => ?_)
    · have hf := oo_f hf c4
      refine lv_aload_n hx hb dX5_tree_30 rfl (lv_at hl 0 rfl) ?_
      refine va_get (ci := 5) (v := .ref (ad 3)) (C := RX5) (T := TX5) (N := 10) hx hb hts hin_X5 hown hK hP 0 rfl rfl 1 (by decide) fl_19 (fun _ h9 => h9) rfl dX5_tree_31 ?_
      refine lv_iload_n hx hb dX5_tree_34 rfl (lv_at hl 1 rfl) ?_
      refine lv_iload_n hx hb dX5_tree_35 rfl (lv_at hl 2 rfl) ?_
      obtain ⟨r6, h5, hf⟩ := oo_b hf
      try dsimp only at hf
      have F : Fr D A _ (wdG cI cJ ad gr_nodes gr_links gr_start gr_end gr_linkBetween gr_wayLength gr_wayNext gr_wayLinks) (wdG cI cJ ad gr_nodes gr_links gr_start gr_end gr_linkBetween gr_wayLength gr_wayNext gr_wayLinks) (wdX cI cJ ad xx_netsRead xx_timesSent xx_passagesSent xx_astraySent xx_loopsSent pg_codes pg_length gr_nodes gr_links gr_start gr_end gr_linkBetween gr_wayLength gr_wayNext gr_wayLinks mk_width mk_drawn mk_seed mk_nextSeed mk_bits bn_links fl_foldBits fl_passages fl_astray fl_loops fl_steps fl_reached fl_matchingAside) := fr_X_G hP hD hS hA
      refine kI F hS (rV (q := (RX2, TX2, 8)) (As := [.int x1, .int x2]) (rest := []) ⟨hx, hb, hml, hown, hts⟩ hK hN F (c_X2_treeLinks l D cI cJ ad _ (gr_nodes := gr_nodes) (gr_links := gr_links) (gr_start := gr_start) (gr_end := gr_end) (gr_linkBetween := gr_linkBetween) (gr_wayLength := gr_wayLength) (gr_wayNext := gr_wayNext) (gr_wayLinks := gr_wayLinks) x1 x2 (o_res := r6) h5) (cwV 2 hts gX5_tree_X2_treeLinks rfl rfl rfl (by decide +kernel) ⟨Nat.le_of_ble_eq_true rfl, Nat.le_of_ble_eq_true rfl⟩) (ci := 2) rfl rfl rfl hl.1 rfl (Nat.le_of_ble_eq_true rfl) dX5_tree_36 ⟨Nat.zero_le _, Nat.zero_le _⟩) (fun H locs hP hD hS => ?_)
      cases hf
      exact hret _ _ _ _ dX5_tree_39 hP hD hS
    · have hf := oo_t hf c4
      refine lv_sipush (v := (-1002 : Int32)) hx hb dX5_tree_26 (by decide) ?_
      cases hf
      exact hret _ _ _ _ dX5_tree_29 hP hD hS
  · have hf := oo_t hf c2
    refine lv_sipush (v := (-1001 : Int32)) hx hb dX5_tree_11 (by decide) ?_
    cases hf
    exact hret _ _ _ _ dX5_tree_14 hP hD hS
def f_X5_bind (gr_nodes : Int32) (gr_wayLinks : Nat → Int32) (bn_links : Nat → Int32) (x1 : Int32) (x2 : Int32) (x3 : Int32) : Option (Int32 × (Nat → Int32)) :=
  if (f_X5_isPlace x1) = (0 : Int32) then
    some ((-1001 : Int32), bn_links)
  else
    if (f_X2_hasNode gr_nodes x2) = (0 : Int32) then
      some ((-1001 : Int32), bn_links)
    else
      if (f_X2_hasNodes gr_nodes x3) = (0 : Int32) then
        some ((-1002 : Int32), bn_links)
      else
        Option.bind (f_X2_treeLinks gr_nodes gr_wayLinks x2 x3) fun r8 =>
        if r8 = (0 : Int32) then
          some ((-1003 : Int32), bn_links)
        else
          Option.bind (f_X0_isThere bn_links x1) fun r12 =>
          if r12 = (0 : Int32) then
            Option.bind (f_X0_put bn_links x1 r8) fun bn_links_16 =>
            some ((f_J6_bitCount_0f7a4 r8), bn_links_16)
          else
            some ((-1004 : Int32), bn_links)
abbrev rm_X5_bind : Room := { frames := 3, cells := 0, slots := 0, locals := 62 }
set_option maxHeartbeats 4000000 in
set_option maxRecDepth 100000 in
theorem c_X5_bind (l : Launch) (D : va_G) (cI cJ : ClassId) (ad : Nat → Nat) (sz : Nat) {xx_netsRead xx_timesSent xx_passagesSent xx_astraySent xx_loopsSent : Int32} {pg_codes : Nat → Int32} {pg_length gr_nodes gr_links : Int32} {gr_start gr_end gr_linkBetween gr_wayLength gr_wayNext gr_wayLinks : Nat → Int32} {mk_width mk_drawn mk_seed : Int32} {mk_nextSeed : Int64} {mk_bits : Nat → Int64} {bn_links : Nat → Int32} {fl_foldBits fl_passages fl_astray fl_loops fl_steps fl_reached fl_matchingAside : Int32} (x1 : Int32) (x2 : Int32) (x3 : Int32) {o_res : Int32} {o_bn_links : Nat → Int32} (hf : f_X5_bind gr_nodes gr_wayLinks bn_links x1 x2 x3 = some (o_res, o_bn_links)) : CtI l yX5_bind wsX5_bind rm_X5_bind D cI cJ [.ref (ad 0), .int x1, .int x2, .int x3] (wdX cI cJ ad xx_netsRead xx_timesSent xx_passagesSent xx_astraySent xx_loopsSent pg_codes pg_length gr_nodes gr_links gr_start gr_end gr_linkBetween gr_wayLength gr_wayNext gr_wayLinks mk_width mk_drawn mk_seed mk_nextSeed mk_bits bn_links fl_foldBits fl_passages fl_astray fl_loops fl_steps fl_reached fl_matchingAside) sz o_res (wdX cI cJ ad xx_netsRead xx_timesSent xx_passagesSent xx_astraySent xx_loopsSent pg_codes pg_length gr_nodes gr_links gr_start gr_end gr_linkBetween gr_wayLength gr_wayNext gr_wayLinks mk_width mk_drawn mk_seed mk_nextSeed mk_bits o_bn_links fl_foldBits fl_passages fl_astray fl_loops fl_steps fl_reached fl_matchingAside) := by
  refine ctI_of (cc := cX5_bind) (maxL := 5) (by decide) rfl (Nat.le_of_ble_eq_true rfl) ?_
  intro p e s m below meth c Q A hx hb hml hown hts hK hN hA hret ls hl hP hD hS
  obtain ⟨args, hargs⟩ : ∃ a : Array Value, a = [.ref (ad 0), .int x1, .int x2, .int x3].toArray := ⟨_, rfl⟩
  rw [← hargs] at hts hret ⊢
  have hown : s.vm.findClass RX5 = some m.cls := hown
  have hl : lv_has ls 5 [(0, .ref (ad 0)), (1, .int x1), (2, .int x2), (3, .int x3)] := hl
  have hin_X5 : ∀ w ∈ wsX50, w ∈ wsX5_bind := fun _ h => List.mem_cons_of_mem _ (List.mem_append_left _ (List.mem_append_left _ (List.mem_append_right _ h)))
  have fl_19 : (Cond.fieldLink RX5 19 "FoldedWays" "graph" "LFoldedWays$Graph;").before args s = true := hat hts 1 rfl
  have fl_33 : (Cond.fieldLink RX5 33 "FoldedWays" "bundles" "LFoldedWays$Bundles;").before args s = true := hat hts 2 rfl
  unfold f_X5_bind at hf
  refine lv_iload_n hx hb dX5_bind_0 rfl (lv_at hl 1 rfl) ?_
  have F : Fr D A _ [] [] (wdX cI cJ ad xx_netsRead xx_timesSent xx_passagesSent xx_astraySent xx_loopsSent pg_codes pg_length gr_nodes gr_links gr_start gr_end gr_linkBetween gr_wayLength gr_wayNext gr_wayLinks mk_width mk_drawn mk_seed mk_nextSeed mk_bits bn_links fl_foldBits fl_passages fl_astray fl_loops fl_steps fl_reached fl_matchingAside) := fr_nil hP hD hS hA
  refine kZ F hS (rS (As := [.int x1]) (rest := []) ⟨hx, hb, hml, hown, hts⟩ hK hN F (c_X5_isPlace l D cI cJ ad _  x1 (o_res := (f_X5_isPlace x1)) rfl) (cwS 1 hts gX5_bind_X5_isPlace rfl rfl rfl (by decide +kernel) ⟨Nat.le_of_ble_eq_true rfl, Nat.le_of_ble_eq_true rfl⟩) rfl hl.1 rfl (Nat.le_of_ble_eq_true rfl) dX5_bind_1 ⟨Nat.zero_le _, Nat.zero_le _⟩) (fun H locs hb1 hP hD hS => ?_)
  refine lv_if_eq (tgt := 18) hx hb dX5_bind_4 (by decide) (fun c2 => ?_) (fun c2 => ?_)
  · have hf := oo_t hf c2
    refine lv_sipush (v := (-1001 : Int32)) hx hb dX5_bind_18 (by decide) ?_
    cases hf
    exact hret _ _ _ _ dX5_bind_21 hP hD hS
  · have hf := oo_f hf c2
    refine lv_aload_n hx hb dX5_bind_7 rfl (lv_at hl 0 rfl) ?_
    refine va_get (ci := 5) (v := .ref (ad 3)) (C := RX5) (T := TX5) (N := 10) hx hb hts hin_X5 hown hK hP 0 rfl rfl 1 (by decide) fl_19 (fun _ h9 => h9) rfl dX5_bind_8 ?_
    refine lv_iload_n hx hb dX5_bind_11 rfl (lv_at hl 2 rfl) ?_
    have F : Fr D A _ (wdG cI cJ ad gr_nodes gr_links gr_start gr_end gr_linkBetween gr_wayLength gr_wayNext gr_wayLinks) (wdG cI cJ ad gr_nodes gr_links gr_start gr_end gr_linkBetween gr_wayLength gr_wayNext gr_wayLinks) (wdX cI cJ ad xx_netsRead xx_timesSent xx_passagesSent xx_astraySent xx_loopsSent pg_codes pg_length gr_nodes gr_links gr_start gr_end gr_linkBetween gr_wayLength gr_wayNext gr_wayLinks mk_width mk_drawn mk_seed mk_nextSeed mk_bits bn_links fl_foldBits fl_passages fl_astray fl_loops fl_steps fl_reached fl_matchingAside) := fr_X_G hP hD hS hA
    refine kZ F hS (rV (q := (RX2, TX2, 8)) (As := [.int x2]) (rest := []) ⟨hx, hb, hml, hown, hts⟩ hK hN F (c_X2_hasNode l D cI cJ ad _ (gr_nodes := gr_nodes) (gr_links := gr_links) (gr_start := gr_start) (gr_end := gr_end) (gr_linkBetween := gr_linkBetween) (gr_wayLength := gr_wayLength) (gr_wayNext := gr_wayNext) (gr_wayLinks := gr_wayLinks) x2 (o_res := (f_X2_hasNode gr_nodes x2)) rfl) (cwV 1 hts gX5_bind_X2_hasNode rfl rfl rfl (by decide +kernel) ⟨Nat.le_of_ble_eq_true rfl, Nat.le_of_ble_eq_true rfl⟩) (ci := 2) rfl rfl rfl hl.1 rfl (Nat.le_of_ble_eq_true rfl) dX5_bind_12 ⟨Nat.zero_le _, Nat.zero_le _⟩) (fun H locs hb3 hP hD hS => ?_)
    refine lv_if_ne (tgt := 22) hx hb dX5_bind_15 (by decide) (fun c4 => ?_) (fun c4 => ?_)
    · have hf := oo_f hf c4
      refine lv_aload_n hx hb dX5_bind_22 rfl (lv_at hl 0 rfl) ?_
      refine va_get (ci := 5) (v := .ref (ad 3)) (C := RX5) (T := TX5) (N := 10) hx hb hts hin_X5 hown hK hP 0 rfl rfl 1 (by decide) fl_19 (fun _ h9 => h9) rfl dX5_bind_23 ?_
      refine lv_iload_n hx hb dX5_bind_26 rfl (lv_at hl 3 rfl) ?_
      have F : Fr D A _ (wdG cI cJ ad gr_nodes gr_links gr_start gr_end gr_linkBetween gr_wayLength gr_wayNext gr_wayLinks) (wdG cI cJ ad gr_nodes gr_links gr_start gr_end gr_linkBetween gr_wayLength gr_wayNext gr_wayLinks) (wdX cI cJ ad xx_netsRead xx_timesSent xx_passagesSent xx_astraySent xx_loopsSent pg_codes pg_length gr_nodes gr_links gr_start gr_end gr_linkBetween gr_wayLength gr_wayNext gr_wayLinks mk_width mk_drawn mk_seed mk_nextSeed mk_bits bn_links fl_foldBits fl_passages fl_astray fl_loops fl_steps fl_reached fl_matchingAside) := fr_X_G hP hD hS hA
      refine kZ F hS (rV (q := (RX2, TX2, 8)) (As := [.int x3]) (rest := []) ⟨hx, hb, hml, hown, hts⟩ hK hN F (c_X2_hasNodes l D cI cJ ad _ (gr_nodes := gr_nodes) (gr_links := gr_links) (gr_start := gr_start) (gr_end := gr_end) (gr_linkBetween := gr_linkBetween) (gr_wayLength := gr_wayLength) (gr_wayNext := gr_wayNext) (gr_wayLinks := gr_wayLinks) x3 (o_res := (f_X2_hasNodes gr_nodes x3)) rfl) (cwV 1 hts gX5_bind_X2_hasNodes rfl rfl rfl (by decide +kernel) ⟨Nat.le_of_ble_eq_true rfl, Nat.le_of_ble_eq_true rfl⟩) (ci := 2) rfl rfl rfl hl.1 rfl (Nat.le_of_ble_eq_true rfl) dX5_bind_27 ⟨Nat.zero_le _, Nat.zero_le _⟩) (fun H locs hb5 hP hD hS => ?_)
      refine lv_if_ne (tgt := 37) hx hb dX5_bind_30 (by decide) (fun c6 => ?_) (fun c6 => ?_)
      · have hf := oo_f hf c6
        refine lv_aload_n hx hb dX5_bind_37 rfl (lv_at hl 0 rfl) ?_
        refine va_get (ci := 5) (v := .ref (ad 3)) (C := RX5) (T := TX5) (N := 10) hx hb hts hin_X5 hown hK hP 0 rfl rfl 1 (by decide) fl_19 (fun _ h9 => h9) rfl dX5_bind_38 ?_
        refine lv_iload_n hx hb dX5_bind_41 rfl (lv_at hl 2 rfl) ?_
        refine lv_iload_n hx hb dX5_bind_42 rfl (lv_at hl 3 rfl) ?_
        obtain ⟨r8, h7, hf⟩ := oo_b hf
        try dsimp only at hf
        have F : Fr D A _ (wdG cI cJ ad gr_nodes gr_links gr_start gr_end gr_linkBetween gr_wayLength gr_wayNext gr_wayLinks) (wdG cI cJ ad gr_nodes gr_links gr_start gr_end gr_linkBetween gr_wayLength gr_wayNext gr_wayLinks) (wdX cI cJ ad xx_netsRead xx_timesSent xx_passagesSent xx_astraySent xx_loopsSent pg_codes pg_length gr_nodes gr_links gr_start gr_end gr_linkBetween gr_wayLength gr_wayNext gr_wayLinks mk_width mk_drawn mk_seed mk_nextSeed mk_bits bn_links fl_foldBits fl_passages fl_astray fl_loops fl_steps fl_reached fl_matchingAside) := fr_X_G hP hD hS hA
        refine kI F hS (rV (q := (RX2, TX2, 8)) (As := [.int x2, .int x3]) (rest := []) ⟨hx, hb, hml, hown, hts⟩ hK hN F (c_X2_treeLinks l D cI cJ ad _ (gr_nodes := gr_nodes) (gr_links := gr_links) (gr_start := gr_start) (gr_end := gr_end) (gr_linkBetween := gr_linkBetween) (gr_wayLength := gr_wayLength) (gr_wayNext := gr_wayNext) (gr_wayLinks := gr_wayLinks) x2 x3 (o_res := r8) h7) (cwV 2 hts gX5_bind_X2_treeLinks rfl rfl rfl (by decide +kernel) ⟨Nat.le_of_ble_eq_true rfl, Nat.le_of_ble_eq_true rfl⟩) (ci := 2) rfl rfl rfl hl.1 rfl (Nat.le_of_ble_eq_true rfl) dX5_bind_43 ⟨Nat.zero_le _, Nat.zero_le _⟩) (fun H locs hP hD hS => ?_)
        refine lv_istore (lv' := [(4, .int r8), (0, .ref (ad 0)), (1, .int x1), (2, .int x2), (3, .int x3)]) hx hb dX5_bind_46 hl (by decide) rfl (fun ls hl => ?_)
        refine lv_iload hx hb dX5_bind_48 (lv_at hl 0 rfl) ?_
        refine lv_if_ne (tgt := 57) hx hb dX5_bind_50 (by decide) (fun c10 => ?_) (fun c10 => ?_)
        · have hf := oo_f hf c10
          refine lv_aload_n hx hb dX5_bind_57 rfl (lv_at hl 1 rfl) ?_
          refine va_get (ci := 5) (v := .ref (ad 12)) (C := RX5) (T := TX5) (N := 10) hx hb hts hin_X5 hown hK hP 0 rfl rfl 3 (by decide) fl_33 (fun _ h9 => h9) rfl dX5_bind_58 ?_
          refine lv_iload_n hx hb dX5_bind_61 rfl (lv_at hl 2 rfl) ?_
          obtain ⟨r12, h11, hf⟩ := oo_b hf
          try dsimp only at hf
          have F : Fr D A _ (wdB cI cJ ad bn_links) (wdB cI cJ ad bn_links) (wdX cI cJ ad xx_netsRead xx_timesSent xx_passagesSent xx_astraySent xx_loopsSent pg_codes pg_length gr_nodes gr_links gr_start gr_end gr_linkBetween gr_wayLength gr_wayNext gr_wayLinks mk_width mk_drawn mk_seed mk_nextSeed mk_bits bn_links fl_foldBits fl_passages fl_astray fl_loops fl_steps fl_reached fl_matchingAside) := fr_X_B hP hD hS hA
          refine kZ F hS (rV (q := (RX0, TX0, 1)) (As := [.int x1]) (rest := []) ⟨hx, hb, hml, hown, hts⟩ hK hN F (c_X0_isThere l D cI cJ ad _ (bn_links := bn_links) x1 (o_res := r12) h11) (cwV 1 hts gX5_bind_X0_isThere rfl rfl rfl (by decide +kernel) ⟨Nat.le_of_ble_eq_true rfl, Nat.le_of_ble_eq_true rfl⟩) (ci := 0) rfl rfl rfl hl.1 rfl (Nat.le_of_ble_eq_true rfl) dX5_bind_62 ⟨Nat.zero_le _, Nat.zero_le _⟩) (fun H locs hb13 hP hD hS => ?_)
          refine lv_if_eq (tgt := 72) hx hb dX5_bind_65 (by decide) (fun c14 => ?_) (fun c14 => ?_)
          · have hf := oo_t hf c14
            refine lv_aload_n hx hb dX5_bind_72 rfl (lv_at hl 1 rfl) ?_
            refine va_get (ci := 5) (v := .ref (ad 12)) (C := RX5) (T := TX5) (N := 10) hx hb hts hin_X5 hown hK hP 0 rfl rfl 3 (by decide) fl_33 (fun _ h9 => h9) rfl dX5_bind_73 ?_
            refine lv_iload_n hx hb dX5_bind_76 rfl (lv_at hl 2 rfl) ?_
            refine lv_iload hx hb dX5_bind_77 (lv_at hl 0 rfl) ?_
            obtain ⟨bn_links_16, h15, hf⟩ := oo_b hf
            try dsimp only at hf
            have F : Fr D A _ (wdB cI cJ ad bn_links) (wdB cI cJ ad bn_links_16) (wdX cI cJ ad xx_netsRead xx_timesSent xx_passagesSent xx_astraySent xx_loopsSent pg_codes pg_length gr_nodes gr_links gr_start gr_end gr_linkBetween gr_wayLength gr_wayNext gr_wayLinks mk_width mk_drawn mk_seed mk_nextSeed mk_bits bn_links_16 fl_foldBits fl_passages fl_astray fl_loops fl_steps fl_reached fl_matchingAside) := fr_X_B hP hD hS hA
            refine kV F hS (rV (q := (RX0, TX0, 1)) (As := [.int x1, .int r8]) (rest := []) ⟨hx, hb, hml, hown, hts⟩ hK hN F (c_X0_put l D cI cJ ad _ (bn_links := bn_links) x1 r8 (o_bn_links := bn_links_16) h15) (cwV 2 hts gX5_bind_X0_put rfl rfl rfl (by decide +kernel) ⟨Nat.le_of_ble_eq_true rfl, Nat.le_of_ble_eq_true rfl⟩) (ci := 0) rfl rfl rfl hl.1 rfl (Nat.le_of_ble_eq_true rfl) dX5_bind_79 ⟨Nat.zero_le _, Nat.zero_le _⟩) (fun H locs hP hD hS => ?_)
            refine lv_iload hx hb dX5_bind_82 (lv_at hl 0 rfl) ?_
            have F : Fr D A _ [] [] (wdX cI cJ ad xx_netsRead xx_timesSent xx_passagesSent xx_astraySent xx_loopsSent pg_codes pg_length gr_nodes gr_links gr_start gr_end gr_linkBetween gr_wayLength gr_wayNext gr_wayLinks mk_width mk_drawn mk_seed mk_nextSeed mk_bits bn_links_16 fl_foldBits fl_passages fl_astray fl_loops fl_steps fl_reached fl_matchingAside) := fr_nil hP hD hS hA
            refine kI F hS (rS (As := [.int r8]) (rest := []) ⟨hx, hb, hml, hown, hts⟩ hK hN F (c_J6_bitCount_0f7a4 l D cI cJ ad _  r8 (o_res := (f_J6_bitCount_0f7a4 r8)) rfl) (va_cwS 1 hts gX5_bind_J6_bitCount_0f7a4 rfl rfl rfl (by decide +kernel) ⟨Nat.le_of_ble_eq_true rfl, Nat.le_of_ble_eq_true rfl⟩) rfl hl.1 rfl (Nat.le_of_ble_eq_true rfl) dX5_bind_84 ⟨Nat.zero_le _, Nat.zero_le _⟩) (fun H locs hP hD hS => ?_)
            cases hf
            exact hret _ _ _ _ dX5_bind_87 hP hD hS
          · have hf := oo_f hf c14
            refine lv_sipush (v := (-1004 : Int32)) hx hb dX5_bind_68 (by decide) ?_
            cases hf
            exact hret _ _ _ _ dX5_bind_71 hP hD hS
        · have hf := oo_t hf c10
          refine lv_sipush (v := (-1003 : Int32)) hx hb dX5_bind_53 (by decide) ?_
          cases hf
          exact hret _ _ _ _ dX5_bind_56 hP hD hS
      · have hf := oo_t hf c6
        refine lv_sipush (v := (-1002 : Int32)) hx hb dX5_bind_33 (by decide) ?_
        cases hf
        exact hret _ _ _ _ dX5_bind_36 hP hD hS
    · have hf := oo_t hf c4
      refine lv_sipush (v := (-1001 : Int32)) hx hb dX5_bind_18 (by decide) ?_
      cases hf
      exact hret _ _ _ _ dX5_bind_21 hP hD hS
def f_X5_loosen (bn_links : Nat → Int32) (x1 : Int32) : Option (Int32 × (Nat → Int32)) :=
  if (f_X5_isPlace x1) = (0 : Int32) then
    some ((-1001 : Int32), bn_links)
  else
    Option.bind (f_X0_isThere bn_links x1) fun r4 =>
    if r4 = (0 : Int32) then
      some ((-1003 : Int32), bn_links)
    else
      Option.bind (f_X0_linksAt bn_links x1) fun r8 =>
      Option.bind (f_X0_put bn_links x1 (0 : Int32)) fun bn_links_11 =>
      some (r8, bn_links_11)
abbrev rm_X5_loosen : Room := { frames := 3, cells := 0, slots := 0, locals := 62 }
set_option maxHeartbeats 4000000 in
set_option maxRecDepth 100000 in
theorem c_X5_loosen (l : Launch) (D : va_G) (cI cJ : ClassId) (ad : Nat → Nat) (sz : Nat) {xx_netsRead xx_timesSent xx_passagesSent xx_astraySent xx_loopsSent : Int32} {pg_codes : Nat → Int32} {pg_length gr_nodes gr_links : Int32} {gr_start gr_end gr_linkBetween gr_wayLength gr_wayNext gr_wayLinks : Nat → Int32} {mk_width mk_drawn mk_seed : Int32} {mk_nextSeed : Int64} {mk_bits : Nat → Int64} {bn_links : Nat → Int32} {fl_foldBits fl_passages fl_astray fl_loops fl_steps fl_reached fl_matchingAside : Int32} (x1 : Int32) {o_res : Int32} {o_bn_links : Nat → Int32} (hf : f_X5_loosen bn_links x1 = some (o_res, o_bn_links)) : CtI l yX5_loosen wsX5_loosen rm_X5_loosen D cI cJ [.ref (ad 0), .int x1] (wdX cI cJ ad xx_netsRead xx_timesSent xx_passagesSent xx_astraySent xx_loopsSent pg_codes pg_length gr_nodes gr_links gr_start gr_end gr_linkBetween gr_wayLength gr_wayNext gr_wayLinks mk_width mk_drawn mk_seed mk_nextSeed mk_bits bn_links fl_foldBits fl_passages fl_astray fl_loops fl_steps fl_reached fl_matchingAside) sz o_res (wdX cI cJ ad xx_netsRead xx_timesSent xx_passagesSent xx_astraySent xx_loopsSent pg_codes pg_length gr_nodes gr_links gr_start gr_end gr_linkBetween gr_wayLength gr_wayNext gr_wayLinks mk_width mk_drawn mk_seed mk_nextSeed mk_bits o_bn_links fl_foldBits fl_passages fl_astray fl_loops fl_steps fl_reached fl_matchingAside) := by
  refine ctI_of (cc := cX5_loosen) (maxL := 3) (by decide) rfl (Nat.le_of_ble_eq_true rfl) ?_
  intro p e s m below meth c Q A hx hb hml hown hts hK hN hA hret ls hl hP hD hS
  obtain ⟨args, hargs⟩ : ∃ a : Array Value, a = [.ref (ad 0), .int x1].toArray := ⟨_, rfl⟩
  rw [← hargs] at hts hret ⊢
  have hown : s.vm.findClass RX5 = some m.cls := hown
  have hl : lv_has ls 3 [(0, .ref (ad 0)), (1, .int x1)] := hl
  have hin_X5 : ∀ w ∈ wsX50, w ∈ wsX5_loosen := fun _ h => List.mem_cons_of_mem _ (List.mem_append_left _ (List.mem_append_right _ h))
  have fl_33 : (Cond.fieldLink RX5 33 "FoldedWays" "bundles" "LFoldedWays$Bundles;").before args s = true := hat hts 1 rfl
  unfold f_X5_loosen at hf
  refine lv_iload_n hx hb dX5_loosen_0 rfl (lv_at hl 1 rfl) ?_
  have F : Fr D A _ [] [] (wdX cI cJ ad xx_netsRead xx_timesSent xx_passagesSent xx_astraySent xx_loopsSent pg_codes pg_length gr_nodes gr_links gr_start gr_end gr_linkBetween gr_wayLength gr_wayNext gr_wayLinks mk_width mk_drawn mk_seed mk_nextSeed mk_bits bn_links fl_foldBits fl_passages fl_astray fl_loops fl_steps fl_reached fl_matchingAside) := fr_nil hP hD hS hA
  refine kZ F hS (rS (As := [.int x1]) (rest := []) ⟨hx, hb, hml, hown, hts⟩ hK hN F (c_X5_isPlace l D cI cJ ad _  x1 (o_res := (f_X5_isPlace x1)) rfl) (cwS 1 hts gX5_loosen_X5_isPlace rfl rfl rfl (by decide +kernel) ⟨Nat.le_of_ble_eq_true rfl, Nat.le_of_ble_eq_true rfl⟩) rfl hl.1 rfl (Nat.le_of_ble_eq_true rfl) dX5_loosen_1 ⟨Nat.zero_le _, Nat.zero_le _⟩) (fun H locs hb1 hP hD hS => ?_)
  refine lv_if_ne (tgt := 11) hx hb dX5_loosen_4 (by decide) (fun c2 => ?_) (fun c2 => ?_)
  · have hf := oo_f hf c2
    refine lv_aload_n hx hb dX5_loosen_11 rfl (lv_at hl 0 rfl) ?_
    refine va_get (ci := 5) (v := .ref (ad 12)) (C := RX5) (T := TX5) (N := 10) hx hb hts hin_X5 hown hK hP 0 rfl rfl 3 (by decide) fl_33 (fun _ h9 => h9) rfl dX5_loosen_12 ?_
    refine lv_iload_n hx hb dX5_loosen_15 rfl (lv_at hl 1 rfl) ?_
    obtain ⟨r4, h3, hf⟩ := oo_b hf
    try dsimp only at hf
    have F : Fr D A _ (wdB cI cJ ad bn_links) (wdB cI cJ ad bn_links) (wdX cI cJ ad xx_netsRead xx_timesSent xx_passagesSent xx_astraySent xx_loopsSent pg_codes pg_length gr_nodes gr_links gr_start gr_end gr_linkBetween gr_wayLength gr_wayNext gr_wayLinks mk_width mk_drawn mk_seed mk_nextSeed mk_bits bn_links fl_foldBits fl_passages fl_astray fl_loops fl_steps fl_reached fl_matchingAside) := fr_X_B hP hD hS hA
    refine kZ F hS (rV (q := (RX0, TX0, 1)) (As := [.int x1]) (rest := []) ⟨hx, hb, hml, hown, hts⟩ hK hN F (c_X0_isThere l D cI cJ ad _ (bn_links := bn_links) x1 (o_res := r4) h3) (cwV 1 hts gX5_loosen_X0_isThere rfl rfl rfl (by decide +kernel) ⟨Nat.le_of_ble_eq_true rfl, Nat.le_of_ble_eq_true rfl⟩) (ci := 0) rfl rfl rfl hl.1 rfl (Nat.le_of_ble_eq_true rfl) dX5_loosen_16 ⟨Nat.zero_le _, Nat.zero_le _⟩) (fun H locs hb5 hP hD hS => ?_)
    refine lv_if_ne (tgt := 26) hx hb dX5_loosen_19 (by decide) (fun c6 => ?_) (fun c6 => ?_)
    · have hf := oo_f hf c6
      refine lv_aload_n hx hb dX5_loosen_26 rfl (lv_at hl 0 rfl) ?_
      refine va_get (ci := 5) (v := .ref (ad 12)) (C := RX5) (T := TX5) (N := 10) hx hb hts hin_X5 hown hK hP 0 rfl rfl 3 (by decide) fl_33 (fun _ h9 => h9) rfl dX5_loosen_27 ?_
      refine lv_iload_n hx hb dX5_loosen_30 rfl (lv_at hl 1 rfl) ?_
      obtain ⟨r8, h7, hf⟩ := oo_b hf
      try dsimp only at hf
      have F : Fr D A _ (wdB cI cJ ad bn_links) (wdB cI cJ ad bn_links) (wdX cI cJ ad xx_netsRead xx_timesSent xx_passagesSent xx_astraySent xx_loopsSent pg_codes pg_length gr_nodes gr_links gr_start gr_end gr_linkBetween gr_wayLength gr_wayNext gr_wayLinks mk_width mk_drawn mk_seed mk_nextSeed mk_bits bn_links fl_foldBits fl_passages fl_astray fl_loops fl_steps fl_reached fl_matchingAside) := fr_X_B hP hD hS hA
      refine kI F hS (rV (q := (RX0, TX0, 1)) (As := [.int x1]) (rest := []) ⟨hx, hb, hml, hown, hts⟩ hK hN F (c_X0_linksAt l D cI cJ ad _ (bn_links := bn_links) x1 (o_res := r8) h7) (cwV 1 hts gX5_loosen_X0_linksAt rfl rfl rfl (by decide +kernel) ⟨Nat.le_of_ble_eq_true rfl, Nat.le_of_ble_eq_true rfl⟩) (ci := 0) rfl rfl rfl hl.1 rfl (Nat.le_of_ble_eq_true rfl) dX5_loosen_31 ⟨Nat.zero_le _, Nat.zero_le _⟩) (fun H locs hP hD hS => ?_)
      refine lv_istore_n (lv' := [(2, .int r8), (0, .ref (ad 0)), (1, .int x1)]) hx hb dX5_loosen_34 rfl hl (by decide) rfl (fun ls hl => ?_)
      refine lv_aload_n hx hb dX5_loosen_35 rfl (lv_at hl 1 rfl) ?_
      refine va_get (ci := 5) (v := .ref (ad 12)) (C := RX5) (T := TX5) (N := 10) hx hb hts hin_X5 hown hK hP 0 rfl rfl 3 (by decide) fl_33 (fun _ h9 => h9) rfl dX5_loosen_36 ?_
      refine lv_iload_n hx hb dX5_loosen_39 rfl (lv_at hl 2 rfl) ?_
      refine lv_iconst (v := (0 : Int32)) hx hb dX5_loosen_40 (by decide) ?_
      obtain ⟨bn_links_11, h10, hf⟩ := oo_b hf
      try dsimp only at hf
      have F : Fr D A _ (wdB cI cJ ad bn_links) (wdB cI cJ ad bn_links_11) (wdX cI cJ ad xx_netsRead xx_timesSent xx_passagesSent xx_astraySent xx_loopsSent pg_codes pg_length gr_nodes gr_links gr_start gr_end gr_linkBetween gr_wayLength gr_wayNext gr_wayLinks mk_width mk_drawn mk_seed mk_nextSeed mk_bits bn_links_11 fl_foldBits fl_passages fl_astray fl_loops fl_steps fl_reached fl_matchingAside) := fr_X_B hP hD hS hA
      refine kV F hS (rV (q := (RX0, TX0, 1)) (As := [.int x1, .int (0 : Int32)]) (rest := []) ⟨hx, hb, hml, hown, hts⟩ hK hN F (c_X0_put l D cI cJ ad _ (bn_links := bn_links) x1 (0 : Int32) (o_bn_links := bn_links_11) h10) (cwV 2 hts gX5_loosen_X0_put rfl rfl rfl (by decide +kernel) ⟨Nat.le_of_ble_eq_true rfl, Nat.le_of_ble_eq_true rfl⟩) (ci := 0) rfl rfl rfl hl.1 rfl (Nat.le_of_ble_eq_true rfl) dX5_loosen_41 ⟨Nat.zero_le _, Nat.zero_le _⟩) (fun H locs hP hD hS => ?_)
      refine lv_iload_n hx hb dX5_loosen_44 rfl (lv_at hl 0 rfl) ?_
      cases hf
      exact hret _ _ _ _ dX5_loosen_45 hP hD hS
    · have hf := oo_t hf c6
      refine lv_sipush (v := (-1003 : Int32)) hx hb dX5_loosen_22 (by decide) ?_
      cases hf
      exact hret _ _ _ _ dX5_loosen_25 hP hD hS
  · have hf := oo_t hf c2
    refine lv_sipush (v := (-1001 : Int32)) hx hb dX5_loosen_7 (by decide) ?_
    cases hf
    exact hret _ _ _ _ dX5_loosen_10 hP hD hS
def f_X5_bound (mk_bits : Nat → Int64) (bn_links : Nat → Int32) (x1 : Int32) (x2 : Int32) : Option (Int64) :=
  if (f_X5_isPlace x1) = (0 : Int32) then
    some (-1001 : Int64)
  else
    Option.bind (f_X0_isThere bn_links x1) fun r4 =>
    if r4 = (0 : Int32) then
      some (-1001 : Int64)
    else
      if (f_X5_isVariant x2) = (0 : Int32) then
        some (-1002 : Int64)
      else
        Option.bind (f_X3_ofBundle mk_bits x1 x2) fun r10 =>
        some r10
abbrev rm_X5_bound : Room := { frames := 3, cells := 0, slots := 0, locals := 62 }
set_option maxHeartbeats 4000000 in
set_option maxRecDepth 100000 in
theorem c_X5_bound (l : Launch) (D : va_G) (cI cJ : ClassId) (ad : Nat → Nat) (sz : Nat) {xx_netsRead xx_timesSent xx_passagesSent xx_astraySent xx_loopsSent : Int32} {pg_codes : Nat → Int32} {pg_length gr_nodes gr_links : Int32} {gr_start gr_end gr_linkBetween gr_wayLength gr_wayNext gr_wayLinks : Nat → Int32} {mk_width mk_drawn mk_seed : Int32} {mk_nextSeed : Int64} {mk_bits : Nat → Int64} {bn_links : Nat → Int32} {fl_foldBits fl_passages fl_astray fl_loops fl_steps fl_reached fl_matchingAside : Int32} (x1 : Int32) (x2 : Int32) {o_res : Int64} (hf : f_X5_bound mk_bits bn_links x1 x2 = some o_res) : CtL l yX5_bound wsX5_bound rm_X5_bound D cI cJ [.ref (ad 0), .int x1, .int x2] (wdX cI cJ ad xx_netsRead xx_timesSent xx_passagesSent xx_astraySent xx_loopsSent pg_codes pg_length gr_nodes gr_links gr_start gr_end gr_linkBetween gr_wayLength gr_wayNext gr_wayLinks mk_width mk_drawn mk_seed mk_nextSeed mk_bits bn_links fl_foldBits fl_passages fl_astray fl_loops fl_steps fl_reached fl_matchingAside) sz o_res (wdX cI cJ ad xx_netsRead xx_timesSent xx_passagesSent xx_astraySent xx_loopsSent pg_codes pg_length gr_nodes gr_links gr_start gr_end gr_linkBetween gr_wayLength gr_wayNext gr_wayLinks mk_width mk_drawn mk_seed mk_nextSeed mk_bits bn_links fl_foldBits fl_passages fl_astray fl_loops fl_steps fl_reached fl_matchingAside) := by
  refine ctL_of (cc := cX5_bound) (maxL := 3) (by decide) rfl (Nat.le_of_ble_eq_true rfl) ?_
  intro p e s m below meth c Q A hx hb hml hown hts hK hN hA hret ls hl hP hD hS
  obtain ⟨args, hargs⟩ : ∃ a : Array Value, a = [.ref (ad 0), .int x1, .int x2].toArray := ⟨_, rfl⟩
  rw [← hargs] at hts hret ⊢
  have hown : s.vm.findClass RX5 = some m.cls := hown
  have hl : lv_has ls 3 [(0, .ref (ad 0)), (1, .int x1), (2, .int x2)] := hl
  have hin_X5 : ∀ w ∈ wsX50, w ∈ wsX5_bound := fun _ h => List.mem_cons_of_mem _ (List.mem_append_left _ (List.mem_append_left _ (List.mem_append_right _ h)))
  have fl_26 : (Cond.fieldLink RX5 26 "FoldedWays" "marks" "LFoldedWays$Marks;").before args s = true := hat hts 4 rfl
  have fl_33 : (Cond.fieldLink RX5 33 "FoldedWays" "bundles" "LFoldedWays$Bundles;").before args s = true := hat hts 1 rfl
  unfold f_X5_bound at hf
  refine lv_iload_n hx hb dX5_bound_0 rfl (lv_at hl 1 rfl) ?_
  have F : Fr D A _ [] [] (wdX cI cJ ad xx_netsRead xx_timesSent xx_passagesSent xx_astraySent xx_loopsSent pg_codes pg_length gr_nodes gr_links gr_start gr_end gr_linkBetween gr_wayLength gr_wayNext gr_wayLinks mk_width mk_drawn mk_seed mk_nextSeed mk_bits bn_links fl_foldBits fl_passages fl_astray fl_loops fl_steps fl_reached fl_matchingAside) := fr_nil hP hD hS hA
  refine kZ F hS (rS (As := [.int x1]) (rest := []) ⟨hx, hb, hml, hown, hts⟩ hK hN F (c_X5_isPlace l D cI cJ ad _  x1 (o_res := (f_X5_isPlace x1)) rfl) (cwS 1 hts gX5_bound_X5_isPlace rfl rfl rfl (by decide +kernel) ⟨Nat.le_of_ble_eq_true rfl, Nat.le_of_ble_eq_true rfl⟩) rfl hl.1 rfl (Nat.le_of_ble_eq_true rfl) dX5_bound_1 ⟨Nat.zero_le _, Nat.zero_le _⟩) (fun H locs hb1 hP hD hS => ?_)
  refine lv_if_eq (tgt := 18) hx hb dX5_bound_4 (by decide) (fun c2 => ?_) (fun c2 => ?_)
  · have hf := oo_t hf c2
    refine lv_ldc2 (v := (-1001 : Int64)) hx hb hown (hat hts 2 rfl) dX5_bound_18 ?_
    cases hf
    exact hret _ _ _ _ dX5_bound_21 hP hD hS
  · have hf := oo_f hf c2
    refine lv_aload_n hx hb dX5_bound_7 rfl (lv_at hl 0 rfl) ?_
    refine va_get (ci := 5) (v := .ref (ad 12)) (C := RX5) (T := TX5) (N := 10) hx hb hts hin_X5 hown hK hP 0 rfl rfl 3 (by decide) fl_33 (fun _ h9 => h9) rfl dX5_bound_8 ?_
    refine lv_iload_n hx hb dX5_bound_11 rfl (lv_at hl 1 rfl) ?_
    obtain ⟨r4, h3, hf⟩ := oo_b hf
    try dsimp only at hf
    have F : Fr D A _ (wdB cI cJ ad bn_links) (wdB cI cJ ad bn_links) (wdX cI cJ ad xx_netsRead xx_timesSent xx_passagesSent xx_astraySent xx_loopsSent pg_codes pg_length gr_nodes gr_links gr_start gr_end gr_linkBetween gr_wayLength gr_wayNext gr_wayLinks mk_width mk_drawn mk_seed mk_nextSeed mk_bits bn_links fl_foldBits fl_passages fl_astray fl_loops fl_steps fl_reached fl_matchingAside) := fr_X_B hP hD hS hA
    refine kZ F hS (rV (q := (RX0, TX0, 1)) (As := [.int x1]) (rest := []) ⟨hx, hb, hml, hown, hts⟩ hK hN F (c_X0_isThere l D cI cJ ad _ (bn_links := bn_links) x1 (o_res := r4) h3) (cwV 1 hts gX5_bound_X0_isThere rfl rfl rfl (by decide +kernel) ⟨Nat.le_of_ble_eq_true rfl, Nat.le_of_ble_eq_true rfl⟩) (ci := 0) rfl rfl rfl hl.1 rfl (Nat.le_of_ble_eq_true rfl) dX5_bound_12 ⟨Nat.zero_le _, Nat.zero_le _⟩) (fun H locs hb5 hP hD hS => ?_)
    refine lv_if_ne (tgt := 22) hx hb dX5_bound_15 (by decide) (fun c6 => ?_) (fun c6 => ?_)
    · have hf := oo_f hf c6
      refine lv_iload_n hx hb dX5_bound_22 rfl (lv_at hl 2 rfl) ?_
      have F : Fr D A _ [] [] (wdX cI cJ ad xx_netsRead xx_timesSent xx_passagesSent xx_astraySent xx_loopsSent pg_codes pg_length gr_nodes gr_links gr_start gr_end gr_linkBetween gr_wayLength gr_wayNext gr_wayLinks mk_width mk_drawn mk_seed mk_nextSeed mk_bits bn_links fl_foldBits fl_passages fl_astray fl_loops fl_steps fl_reached fl_matchingAside) := fr_nil hP hD hS hA
      refine kZ F hS (rS (As := [.int x2]) (rest := []) ⟨hx, hb, hml, hown, hts⟩ hK hN F (c_X5_isVariant l D cI cJ ad _  x2 (o_res := (f_X5_isVariant x2)) rfl) (cwS 1 hts gX5_bound_X5_isVariant rfl rfl rfl (by decide +kernel) ⟨Nat.le_of_ble_eq_true rfl, Nat.le_of_ble_eq_true rfl⟩) rfl hl.1 rfl (Nat.le_of_ble_eq_true rfl) dX5_bound_23 ⟨Nat.zero_le _, Nat.zero_le _⟩) (fun H locs hb7 hP hD hS => ?_)
      refine lv_if_ne (tgt := 33) hx hb dX5_bound_26 (by decide) (fun c8 => ?_) (fun c8 => ?_)
      · have hf := oo_f hf c8
        refine lv_aload_n hx hb dX5_bound_33 rfl (lv_at hl 0 rfl) ?_
        refine va_get (ci := 5) (v := .ref (ad 10)) (C := RX5) (T := TX5) (N := 10) hx hb hts hin_X5 hown hK hP 0 rfl rfl 2 (by decide) fl_26 (fun _ h9 => h9) rfl dX5_bound_34 ?_
        refine lv_iload_n hx hb dX5_bound_37 rfl (lv_at hl 1 rfl) ?_
        refine lv_iload_n hx hb dX5_bound_38 rfl (lv_at hl 2 rfl) ?_
        obtain ⟨r10, h9, hf⟩ := oo_b hf
        try dsimp only at hf
        have F : Fr D A _ (wdK cI cJ ad mk_width mk_drawn mk_seed mk_nextSeed mk_bits) (wdK cI cJ ad mk_width mk_drawn mk_seed mk_nextSeed mk_bits) (wdX cI cJ ad xx_netsRead xx_timesSent xx_passagesSent xx_astraySent xx_loopsSent pg_codes pg_length gr_nodes gr_links gr_start gr_end gr_linkBetween gr_wayLength gr_wayNext gr_wayLinks mk_width mk_drawn mk_seed mk_nextSeed mk_bits bn_links fl_foldBits fl_passages fl_astray fl_loops fl_steps fl_reached fl_matchingAside) := fr_X_K hP hD hS hA
        refine kL F hS (rV (q := (RX3, TX3, 5)) (As := [.int x1, .int x2]) (rest := []) ⟨hx, hb, hml, hown, hts⟩ hK hN F (c_X3_ofBundle l D cI cJ ad _ (mk_width := mk_width) (mk_drawn := mk_drawn) (mk_seed := mk_seed) (mk_nextSeed := mk_nextSeed) (mk_bits := mk_bits) x1 x2 (o_res := r10) h9) (cwV 2 hts gX5_bound_X3_ofBundle rfl rfl rfl (by decide +kernel) ⟨Nat.le_of_ble_eq_true rfl, Nat.le_of_ble_eq_true rfl⟩) (ci := 3) rfl rfl rfl hl.1 rfl (Nat.le_of_ble_eq_true rfl) dX5_bound_39 ⟨Nat.zero_le _, Nat.zero_le _⟩) (fun H locs hP hD hS => ?_)
        cases hf
        exact hret _ _ _ _ dX5_bound_42 hP hD hS
      · have hf := oo_t hf c8
        refine lv_ldc2 (v := (-1002 : Int64)) hx hb hown (hat hts 3 rfl) dX5_bound_29 ?_
        cases hf
        exact hret _ _ _ _ dX5_bound_32 hP hD hS
    · have hf := oo_t hf c6
      refine lv_ldc2 (v := (-1001 : Int64)) hx hb hown (hat hts 2 rfl) dX5_bound_18 ?_
      cases hf
      exact hret _ _ _ _ dX5_bound_21 hP hD hS
def f_X5_foldedBits_L83 (gr_links : Int32) (mk_bits : Nat → Int64) (x2 : Int32) (x7_a83 : Int32) : Nat → Int64 → Int32 → Option (Int64)
  | 0, _, _ => none
  | n + 1, x4_a83, x8_a83 =>
      if (f_X2_linkCount gr_links) ≤ x8_a83 then
        some x4_a83
      else
        Option.bind (α := Int64) (if ((x7_a83 >>> (x8_a83 &&& 31)) &&& (1 : Int32)) = (0 : Int32) then
            some x4_a83
          else
            Option.bind (f_X3_ofLink mk_bits x8_a83 x2) fun r14 =>
            some (x4_a83 ||| r14)) fun x4_9 =>
        f_X5_foldedBits_L83 gr_links mk_bits x2 x7_a83 n x4_9 (x8_a83 + (1 : Int32))
theorem f_X5_foldedBits_L83_s (gr_links : Int32) (mk_bits : Nat → Int64) (x2 : Int32) (x7_a83 : Int32) (n : Nat) (x4_a83 : Int64) (x8_a83 : Int32) : f_X5_foldedBits_L83 gr_links mk_bits x2 x7_a83 (n + 1) x4_a83 x8_a83 =
      (if (f_X2_linkCount gr_links) ≤ x8_a83 then
        some x4_a83
      else
        Option.bind (α := Int64) (if ((x7_a83 >>> (x8_a83 &&& 31)) &&& (1 : Int32)) = (0 : Int32) then
            some x4_a83
          else
            Option.bind (f_X3_ofLink mk_bits x8_a83 x2) fun r14 =>
            some (x4_a83 ||| r14)) fun x4_9 =>
        f_X5_foldedBits_L83 gr_links mk_bits x2 x7_a83 n x4_9 (x8_a83 + (1 : Int32))) := rfl
def f_X5_foldedBits_L13 (mk_bits : Nat → Int64) (bn_links : Nat → Int32) (x1 : Int32) (x2 : Int32) : Nat → Int64 → Int32 → Int32 → Option (Int64 × Int32)
  | 0, _, _, _ => none
  | n + 1, x4_a13, x6_a13, x7_a13 =>
      if (4 : Int32) ≤ x7_a13 then
        some (x4_a13, x6_a13)
      else
        Option.bind (f_X0_linksAt bn_links x7_a13) fun r23 =>
        Option.bind (α := Int64 × Int32) (if r23 = (0 : Int32) then
            some (x4_a13, x6_a13)
          else
            if (r23 &&& (x1 ^^^ (-1 : Int32))) = (0 : Int32) then
              Option.bind (f_X3_ofBundle mk_bits x7_a13 x2) fun r32 =>
              some ((x4_a13 ||| r32), (x6_a13 ||| r23))
            else
              some (x4_a13, x6_a13)) fun (x4_25, x6_26) =>
        f_X5_foldedBits_L13 mk_bits bn_links x1 x2 n x4_25 x6_26 (x7_a13 + (1 : Int32))
theorem f_X5_foldedBits_L13_s (mk_bits : Nat → Int64) (bn_links : Nat → Int32) (x1 : Int32) (x2 : Int32) (n : Nat) (x4_a13 : Int64) (x6_a13 : Int32) (x7_a13 : Int32) : f_X5_foldedBits_L13 mk_bits bn_links x1 x2 (n + 1) x4_a13 x6_a13 x7_a13 =
      (if (4 : Int32) ≤ x7_a13 then
        some (x4_a13, x6_a13)
      else
        Option.bind (f_X0_linksAt bn_links x7_a13) fun r23 =>
        Option.bind (α := Int64 × Int32) (if r23 = (0 : Int32) then
            some (x4_a13, x6_a13)
          else
            if (r23 &&& (x1 ^^^ (-1 : Int32))) = (0 : Int32) then
              Option.bind (f_X3_ofBundle mk_bits x7_a13 x2) fun r32 =>
              some ((x4_a13 ||| r32), (x6_a13 ||| r23))
            else
              some (x4_a13, x6_a13)) fun (x4_25, x6_26) =>
        f_X5_foldedBits_L13 mk_bits bn_links x1 x2 n x4_25 x6_26 (x7_a13 + (1 : Int32))) := rfl
def f_X5_foldedBits (gr_links : Int32) (mk_bits : Nat → Int64) (bn_links : Nat → Int32) (x1 : Int32) (x2 : Int32) (x3 : Int32) : Option (Int64) :=
  Option.bind (α := Int64 × Int32) (if x3 = (0 : Int32) then
      some ((0 : Int64), (0 : Int32))
    else
      Option.bind (f_X5_foldedBits_L13 mk_bits bn_links x1 x2 100 (0 : Int64) (0 : Int32) (0 : Int32)) fun (x4_o18, x6_o19) =>
      some (x4_o18, x6_o19)) fun (x4_1, x6_2) =>
  Option.bind (f_X5_foldedBits_L83 gr_links mk_bits x2 (x1 &&& (x6_2 ^^^ (-1 : Int32))) 100 x4_1 (0 : Int32)) fun x4_o5 =>
  some x4_o5
abbrev rm_X5_foldedBits : Room := { frames := 2, cells := 0, slots := 0, locals := 42 }
set_option maxHeartbeats 4000000 in
set_option maxRecDepth 100000 in
theorem c_X5_foldedBits (l : Launch) (D : va_G) (cI cJ : ClassId) (ad : Nat → Nat) (sz : Nat) {xx_netsRead xx_timesSent xx_passagesSent xx_astraySent xx_loopsSent : Int32} {pg_codes : Nat → Int32} {pg_length gr_nodes gr_links : Int32} {gr_start gr_end gr_linkBetween gr_wayLength gr_wayNext gr_wayLinks : Nat → Int32} {mk_width mk_drawn mk_seed : Int32} {mk_nextSeed : Int64} {mk_bits : Nat → Int64} {bn_links : Nat → Int32} {fl_foldBits fl_passages fl_astray fl_loops fl_steps fl_reached fl_matchingAside : Int32} (x1 : Int32) (x2 : Int32) (x3 : Int32) {o_res : Int64} (hf : f_X5_foldedBits gr_links mk_bits bn_links x1 x2 x3 = some o_res) : CtL l yX5_foldedBits wsX5_foldedBits rm_X5_foldedBits D cI cJ [.ref (ad 0), .int x1, .int x2, .int x3] (wdX cI cJ ad xx_netsRead xx_timesSent xx_passagesSent xx_astraySent xx_loopsSent pg_codes pg_length gr_nodes gr_links gr_start gr_end gr_linkBetween gr_wayLength gr_wayNext gr_wayLinks mk_width mk_drawn mk_seed mk_nextSeed mk_bits bn_links fl_foldBits fl_passages fl_astray fl_loops fl_steps fl_reached fl_matchingAside) sz o_res (wdX cI cJ ad xx_netsRead xx_timesSent xx_passagesSent xx_astraySent xx_loopsSent pg_codes pg_length gr_nodes gr_links gr_start gr_end gr_linkBetween gr_wayLength gr_wayNext gr_wayLinks mk_width mk_drawn mk_seed mk_nextSeed mk_bits bn_links fl_foldBits fl_passages fl_astray fl_loops fl_steps fl_reached fl_matchingAside) := by
  refine ctL_of (cc := cX5_foldedBits) (maxL := 9) (by decide) rfl (Nat.le_of_ble_eq_true rfl) ?_
  intro p e s m below meth c Q A hx hb hml hown hts hK hN hA hret ls hl hP hD hS
  obtain ⟨args, hargs⟩ : ∃ a : Array Value, a = [.ref (ad 0), .int x1, .int x2, .int x3].toArray := ⟨_, rfl⟩
  rw [← hargs] at hts hret ⊢
  have hown : s.vm.findClass RX5 = some m.cls := hown
  have hl : lv_has ls 9 [(0, .ref (ad 0)), (1, .int x1), (2, .int x2), (3, .int x3)] := hl
  have hin_X5 : ∀ w ∈ wsX50, w ∈ wsX5_foldedBits := fun _ h => List.mem_cons_of_mem _ (List.mem_append_left _ (List.mem_append_left _ (List.mem_append_left _ (List.mem_append_right _ h))))
  have fl_19 : (Cond.fieldLink RX5 19 "FoldedWays" "graph" "LFoldedWays$Graph;").before args s = true := hat hts 3 rfl
  have fl_26 : (Cond.fieldLink RX5 26 "FoldedWays" "marks" "LFoldedWays$Marks;").before args s = true := hat hts 2 rfl
  have fl_33 : (Cond.fieldLink RX5 33 "FoldedWays" "bundles" "LFoldedWays$Bundles;").before args s = true := hat hts 1 rfl
  unfold f_X5_foldedBits at hf
  refine lv_lconst (v := (0 : Int64)) hx hb dX5_foldedBits_0 (by decide) ?_
  refine lv_lstore (lv' := [(4, .long (0 : Int64)), (0, .ref (ad 0)), (1, .int x1), (2, .int x2), (3, .int x3)]) hx hb dX5_foldedBits_1 hl (by decide) rfl (fun ls hl => ?_)
  refine lv_iconst (v := (0 : Int32)) hx hb dX5_foldedBits_3 (by decide) ?_
  refine lv_istore (lv' := [(6, .int (0 : Int32)), (4, .long (0 : Int64)), (0, .ref (ad 0)), (1, .int x1), (2, .int x2), (3, .int x3)]) hx hb dX5_foldedBits_4 hl (by decide) rfl (fun ls hl => ?_)
  refine lv_iload_n hx hb dX5_foldedBits_6 rfl (lv_at hl 5 rfl) ?_
  obtain ⟨⟨x4_1, x6_2⟩, hj4, hf⟩ := oo_b hf
  try dsimp only at hf
  have kj3 : ∀ (H : Heap) (locs : List Loc) (ls : Array Slot), va_P D vwCl (wdX cI cJ ad xx_netsRead xx_timesSent xx_passagesSent xx_astraySent xx_loopsSent pg_codes pg_length gr_nodes gr_links gr_start gr_end gr_linkBetween gr_wayLength gr_wayNext gr_wayLinks mk_width mk_drawn mk_seed mk_nextSeed mk_bits bn_links fl_foldBits fl_passages fl_astray fl_loops fl_steps fl_reached fl_matchingAside) H → va_D A (wdX cI cJ ad xx_netsRead xx_timesSent xx_passagesSent xx_astraySent xx_loopsSent pg_codes pg_length gr_nodes gr_links gr_start gr_end gr_linkBetween gr_wayLength gr_wayNext gr_wayLinks mk_width mk_drawn mk_seed mk_nextSeed mk_bits bn_links fl_foldBits fl_passages fl_astray fl_loops fl_steps fl_reached fl_matchingAside) → va_S A s.heap H locs → lv_has ls 9 [(0, .ref (ad 0)), (1, .int x1), (2, .int x2), (4, .long x4_1), (6, .int x6_2)] → W p l e rm_X5_foldedBits s m args below meth c H locs 0 0 Q (F0 m 72 ls []) := by
    intro H locs ls hP hD hS hl
    refine lv_iload_n hx hb dX5_foldedBits_72 rfl (lv_at hl 1 rfl) ?_
    refine lv_iload hx hb dX5_foldedBits_73 (lv_at hl 4 rfl) ?_
    refine lv_iconst (v := (-1 : Int32)) hx hb dX5_foldedBits_75 (by decide) ?_
    refine lv_ixor hx hb dX5_foldedBits_76 ?_
    refine lv_iand hx hb dX5_foldedBits_77 ?_
    refine lv_istore (lv' := [(7, .int (x1 &&& (x6_2 ^^^ (-1 : Int32)))), (0, .ref (ad 0)), (1, .int x1), (2, .int x2), (4, .long x4_1), (6, .int x6_2)]) hx hb dX5_foldedBits_78 hl (by decide) rfl (fun ls hl => ?_)
    refine lv_iconst (v := (0 : Int32)) hx hb dX5_foldedBits_80 (by decide) ?_
    refine lv_istore (lv' := [(8, .int (0 : Int32)), (7, .int (x1 &&& (x6_2 ^^^ (-1 : Int32)))), (0, .ref (ad 0)), (1, .int x1), (2, .int x2), (4, .long x4_1), (6, .int x6_2)]) hx hb dX5_foldedBits_81 hl (by decide) rfl (fun ls hl => ?_)
    have lp6 : ∀ (x7_a83 : Int32) (n : Nat) (x4_a83 : Int64) (x8_a83 : Int32) (x4_o5 : Int64), f_X5_foldedBits_L83 gr_links mk_bits x2 x7_a83 n x4_a83 x8_a83 = some x4_o5 → (∀ (H : Heap) (locs : List Loc) (ls : Array Slot), va_P D vwCl (wdX cI cJ ad xx_netsRead xx_timesSent xx_passagesSent xx_astraySent xx_loopsSent pg_codes pg_length gr_nodes gr_links gr_start gr_end gr_linkBetween gr_wayLength gr_wayNext gr_wayLinks mk_width mk_drawn mk_seed mk_nextSeed mk_bits bn_links fl_foldBits fl_passages fl_astray fl_loops fl_steps fl_reached fl_matchingAside) H → va_D A (wdX cI cJ ad xx_netsRead xx_timesSent xx_passagesSent xx_astraySent xx_loopsSent pg_codes pg_length gr_nodes gr_links gr_start gr_end gr_linkBetween gr_wayLength gr_wayNext gr_wayLinks mk_width mk_drawn mk_seed mk_nextSeed mk_bits bn_links fl_foldBits fl_passages fl_astray fl_loops fl_steps fl_reached fl_matchingAside) → va_S A s.heap H locs → lv_has ls 9 [(4, .long x4_o5)] → W p l e rm_X5_foldedBits s m args below meth c H locs 0 0 Q (F0 m 126 ls [])) → ∀ (H : Heap) (locs : List Loc) (ls : Array Slot), va_P D vwCl (wdX cI cJ ad xx_netsRead xx_timesSent xx_passagesSent xx_astraySent xx_loopsSent pg_codes pg_length gr_nodes gr_links gr_start gr_end gr_linkBetween gr_wayLength gr_wayNext gr_wayLinks mk_width mk_drawn mk_seed mk_nextSeed mk_bits bn_links fl_foldBits fl_passages fl_astray fl_loops fl_steps fl_reached fl_matchingAside) H → va_D A (wdX cI cJ ad xx_netsRead xx_timesSent xx_passagesSent xx_astraySent xx_loopsSent pg_codes pg_length gr_nodes gr_links gr_start gr_end gr_linkBetween gr_wayLength gr_wayNext gr_wayLinks mk_width mk_drawn mk_seed mk_nextSeed mk_bits bn_links fl_foldBits fl_passages fl_astray fl_loops fl_steps fl_reached fl_matchingAside) → va_S A s.heap H locs → lv_has ls 9 [(0, .ref (ad 0)), (2, .int x2), (4, .long x4_a83), (7, .int x7_a83), (8, .int x8_a83)] → W p l e rm_X5_foldedBits s m args below meth c H locs 0 0 Q (F0 m 83 ls []) := by
      intro x7_a83
      intro n
      induction n with
      | zero =>
        intro x4_a83 x8_a83 x4_o5 h0
        exact oo_n h0
      | succ n ih =>
        intro x4_a83 x8_a83 x4_o5 hf kk H locs ls hP hD hS hl
        rw [f_X5_foldedBits_L83_s] at hf
        refine lv_iload hx hb dX5_foldedBits_83 (lv_at hl 4 rfl) ?_
        refine lv_aload_n hx hb dX5_foldedBits_85 rfl (lv_at hl 0 rfl) ?_
        refine va_get (ci := 5) (v := .ref (ad 3)) (C := RX5) (T := TX5) (N := 10) hx hb hts hin_X5 hown hK hP 0 rfl rfl 1 (by decide) fl_19 (fun _ h9 => h9) rfl dX5_foldedBits_86 ?_
        have F : Fr D A _ (wdG cI cJ ad gr_nodes gr_links gr_start gr_end gr_linkBetween gr_wayLength gr_wayNext gr_wayLinks) (wdG cI cJ ad gr_nodes gr_links gr_start gr_end gr_linkBetween gr_wayLength gr_wayNext gr_wayLinks) (wdX cI cJ ad xx_netsRead xx_timesSent xx_passagesSent xx_astraySent xx_loopsSent pg_codes pg_length gr_nodes gr_links gr_start gr_end gr_linkBetween gr_wayLength gr_wayNext gr_wayLinks mk_width mk_drawn mk_seed mk_nextSeed mk_bits bn_links fl_foldBits fl_passages fl_astray fl_loops fl_steps fl_reached fl_matchingAside) := fr_X_G hP hD hS hA
        refine kI F hS (rV (q := (RX2, TX2, 8)) (As := []) (rest := [.int x8_a83]) ⟨hx, hb, hml, hown, hts⟩ hK hN F (c_X2_linkCount l D cI cJ ad _ (gr_nodes := gr_nodes) (gr_links := gr_links) (gr_start := gr_start) (gr_end := gr_end) (gr_linkBetween := gr_linkBetween) (gr_wayLength := gr_wayLength) (gr_wayNext := gr_wayNext) (gr_wayLinks := gr_wayLinks)  (o_res := (f_X2_linkCount gr_links)) rfl) (cwV 0 hts gX5_foldedBits_X2_linkCount rfl rfl rfl (by decide +kernel) ⟨Nat.le_of_ble_eq_true rfl, Nat.le_of_ble_eq_true rfl⟩) (ci := 2) rfl rfl rfl hl.1 rfl (Nat.le_of_ble_eq_true rfl) dX5_foldedBits_89 ⟨Nat.zero_le _, Nat.zero_le _⟩) (fun H locs hP hD hS => ?_)
        refine lv_icmp_ge (tgt := 126) hx hb dX5_foldedBits_92 (by decide) (fun c8 => ?_) (fun c8 => ?_)
        · have hf := oo_t hf c8
          cases hf
          exact kk _ _ _ hP hD hS (lv_sub hl [2] rfl)
        · have hf := oo_f hf c8
          refine lv_iload hx hb dX5_foldedBits_95 (lv_at hl 3 rfl) ?_
          refine lv_iload hx hb dX5_foldedBits_97 (lv_at hl 4 rfl) ?_
          refine lv_ishr hx hb dX5_foldedBits_99 ?_
          refine lv_iconst (v := (1 : Int32)) hx hb dX5_foldedBits_100 (by decide) ?_
          refine lv_iand hx hb dX5_foldedBits_101 ?_
          obtain ⟨x4_9, hj11, hf⟩ := oo_b hf
          try dsimp only at hf
          have kj10 : ∀ (H : Heap) (locs : List Loc) (ls : Array Slot), va_P D vwCl (wdX cI cJ ad xx_netsRead xx_timesSent xx_passagesSent xx_astraySent xx_loopsSent pg_codes pg_length gr_nodes gr_links gr_start gr_end gr_linkBetween gr_wayLength gr_wayNext gr_wayLinks mk_width mk_drawn mk_seed mk_nextSeed mk_bits bn_links fl_foldBits fl_passages fl_astray fl_loops fl_steps fl_reached fl_matchingAside) H → va_D A (wdX cI cJ ad xx_netsRead xx_timesSent xx_passagesSent xx_astraySent xx_loopsSent pg_codes pg_length gr_nodes gr_links gr_start gr_end gr_linkBetween gr_wayLength gr_wayNext gr_wayLinks mk_width mk_drawn mk_seed mk_nextSeed mk_bits bn_links fl_foldBits fl_passages fl_astray fl_loops fl_steps fl_reached fl_matchingAside) → va_S A s.heap H locs → lv_has ls 9 [(0, .ref (ad 0)), (2, .int x2), (4, .long x4_9), (7, .int x7_a83), (8, .int x8_a83)] → W p l e rm_X5_foldedBits s m args below meth c H locs 0 0 Q (F0 m 120 ls []) := by
            intro H locs ls hP hD hS hl
            refine lv_iinc (v := (x8_a83 + (1 : Int32))) (lv' := [(8, .int (x8_a83 + (1 : Int32))), (0, .ref (ad 0)), (2, .int x2), (4, .long x4_9), (7, .int x7_a83)]) hx hb dX5_foldedBits_120 hl (k := 4) rfl rfl (by decide) rfl (fun ls hl => ?_)
            refine lv_goto (tgt := 83) hx hb dX5_foldedBits_123 (by decide) ?_
            exact ih x4_9 (x8_a83 + (1 : Int32)) _ hf kk _ _ _ hP hD hS (lv_sub hl [1, 2, 3, 4, 0] rfl)
          clear hf
          have hf := hj11
          clear hj11
          refine lv_if_eq (tgt := 120) hx hb dX5_foldedBits_102 (by decide) (fun c12 => ?_) (fun c12 => ?_)
          · have hf := oo_t hf c12
            cases hf
            exact kj10 _ _ _ hP hD hS (lv_sub hl [0, 1, 2, 3, 4] rfl)
          · have hf := oo_f hf c12
            refine lv_lload hx hb dX5_foldedBits_105 (lv_at hl 2 rfl) ?_
            refine lv_aload_n hx hb dX5_foldedBits_107 rfl (lv_at hl 0 rfl) ?_
            refine va_get (ci := 5) (v := .ref (ad 10)) (C := RX5) (T := TX5) (N := 10) hx hb hts hin_X5 hown hK hP 0 rfl rfl 2 (by decide) fl_26 (fun _ h9 => h9) rfl dX5_foldedBits_108 ?_
            refine lv_iload hx hb dX5_foldedBits_111 (lv_at hl 4 rfl) ?_
            refine lv_iload_n hx hb dX5_foldedBits_113 rfl (lv_at hl 1 rfl) ?_
            obtain ⟨r14, h13, hf⟩ := oo_b hf
            try dsimp only at hf
            have F : Fr D A _ (wdK cI cJ ad mk_width mk_drawn mk_seed mk_nextSeed mk_bits) (wdK cI cJ ad mk_width mk_drawn mk_seed mk_nextSeed mk_bits) (wdX cI cJ ad xx_netsRead xx_timesSent xx_passagesSent xx_astraySent xx_loopsSent pg_codes pg_length gr_nodes gr_links gr_start gr_end gr_linkBetween gr_wayLength gr_wayNext gr_wayLinks mk_width mk_drawn mk_seed mk_nextSeed mk_bits bn_links fl_foldBits fl_passages fl_astray fl_loops fl_steps fl_reached fl_matchingAside) := fr_X_K hP hD hS hA
            refine kL F hS (rV (q := (RX3, TX3, 5)) (As := [.int x8_a83, .int x2]) (rest := [.long x4_a83]) ⟨hx, hb, hml, hown, hts⟩ hK hN F (c_X3_ofLink l D cI cJ ad _ (mk_width := mk_width) (mk_drawn := mk_drawn) (mk_seed := mk_seed) (mk_nextSeed := mk_nextSeed) (mk_bits := mk_bits) x8_a83 x2 (o_res := r14) h13) (cwV 2 hts gX5_foldedBits_X3_ofLink rfl rfl rfl (by decide +kernel) ⟨Nat.le_of_ble_eq_true rfl, Nat.le_of_ble_eq_true rfl⟩) (ci := 3) rfl rfl rfl hl.1 rfl (Nat.le_of_ble_eq_true rfl) dX5_foldedBits_114 ⟨Nat.zero_le _, Nat.zero_le _⟩) (fun H locs hP hD hS => ?_)
            refine lv_lor hx hb dX5_foldedBits_117 ?_
            refine lv_lstore (lv' := [(4, .long (x4_a83 ||| r14)), (0, .ref (ad 0)), (2, .int x2), (7, .int x7_a83), (8, .int x8_a83)]) hx hb dX5_foldedBits_118 hl (by decide) rfl (fun ls hl => ?_)
            cases hf
            exact kj10 _ _ _ hP hD hS (lv_sub hl [1, 2, 0, 3, 4] rfl)
    obtain ⟨x4_o5, h16, hf⟩ := oo_b hf
    try dsimp only at hf
    refine lp6 (x1 &&& (x6_2 ^^^ (-1 : Int32))) 100 x4_1 (0 : Int32) x4_o5 h16 (fun H locs ls hP hD hS hl => ?_) _ _ _ hP hD hS (lv_sub hl [2, 4, 5, 1, 0] rfl)
    refine lv_lload hx hb dX5_foldedBits_126 (lv_at hl 0 rfl) ?_
    cases hf
    exact hret _ _ _ _ dX5_foldedBits_128 hP hD hS
  clear hf
  have hf := hj4
  clear hj4
  refine lv_if_eq (tgt := 72) hx hb dX5_foldedBits_7 (by decide) (fun c17 => ?_) (fun c17 => ?_)
  · have hf := oo_t hf c17
    cases hf
    exact kj3 _ _ _ hP hD hS (lv_sub hl [2, 3, 4, 1, 0] rfl)
  · have hf := oo_f hf c17
    refine lv_iconst (v := (0 : Int32)) hx hb dX5_foldedBits_10 (by decide) ?_
    refine lv_istore (lv' := [(7, .int (0 : Int32)), (6, .int (0 : Int32)), (4, .long (0 : Int64)), (0, .ref (ad 0)), (1, .int x1), (2, .int x2), (3, .int x3)]) hx hb dX5_foldedBits_11 hl (by decide) rfl (fun ls hl => ?_)
    have lp20 : ∀ (n : Nat) (x4_a13 : Int64) (x6_a13 : Int32) (x7_a13 : Int32) (x4_o18 : Int64) (x6_o19 : Int32), f_X5_foldedBits_L13 mk_bits bn_links x1 x2 n x4_a13 x6_a13 x7_a13 = some (x4_o18, x6_o19) → (∀ (H : Heap) (locs : List Loc) (ls : Array Slot), va_P D vwCl (wdX cI cJ ad xx_netsRead xx_timesSent xx_passagesSent xx_astraySent xx_loopsSent pg_codes pg_length gr_nodes gr_links gr_start gr_end gr_linkBetween gr_wayLength gr_wayNext gr_wayLinks mk_width mk_drawn mk_seed mk_nextSeed mk_bits bn_links fl_foldBits fl_passages fl_astray fl_loops fl_steps fl_reached fl_matchingAside) H → va_D A (wdX cI cJ ad xx_netsRead xx_timesSent xx_passagesSent xx_astraySent xx_loopsSent pg_codes pg_length gr_nodes gr_links gr_start gr_end gr_linkBetween gr_wayLength gr_wayNext gr_wayLinks mk_width mk_drawn mk_seed mk_nextSeed mk_bits bn_links fl_foldBits fl_passages fl_astray fl_loops fl_steps fl_reached fl_matchingAside) → va_S A s.heap H locs → lv_has ls 9 [(0, .ref (ad 0)), (1, .int x1), (2, .int x2), (4, .long x4_o18), (6, .int x6_o19)] → W p l e rm_X5_foldedBits s m args below meth c H locs 0 0 Q (F0 m 72 ls [])) → ∀ (H : Heap) (locs : List Loc) (ls : Array Slot), va_P D vwCl (wdX cI cJ ad xx_netsRead xx_timesSent xx_passagesSent xx_astraySent xx_loopsSent pg_codes pg_length gr_nodes gr_links gr_start gr_end gr_linkBetween gr_wayLength gr_wayNext gr_wayLinks mk_width mk_drawn mk_seed mk_nextSeed mk_bits bn_links fl_foldBits fl_passages fl_astray fl_loops fl_steps fl_reached fl_matchingAside) H → va_D A (wdX cI cJ ad xx_netsRead xx_timesSent xx_passagesSent xx_astraySent xx_loopsSent pg_codes pg_length gr_nodes gr_links gr_start gr_end gr_linkBetween gr_wayLength gr_wayNext gr_wayLinks mk_width mk_drawn mk_seed mk_nextSeed mk_bits bn_links fl_foldBits fl_passages fl_astray fl_loops fl_steps fl_reached fl_matchingAside) → va_S A s.heap H locs → lv_has ls 9 [(0, .ref (ad 0)), (1, .int x1), (2, .int x2), (4, .long x4_a13), (6, .int x6_a13), (7, .int x7_a13)] → W p l e rm_X5_foldedBits s m args below meth c H locs 0 0 Q (F0 m 13 ls []) := by
      intro n
      induction n with
      | zero =>
        intro x4_a13 x6_a13 x7_a13 x4_o18 x6_o19 h0
        exact oo_n h0
      | succ n ih =>
        intro x4_a13 x6_a13 x7_a13 x4_o18 x6_o19 hf kk H locs ls hP hD hS hl
        rw [f_X5_foldedBits_L13_s] at hf
        refine lv_iload hx hb dX5_foldedBits_13 (lv_at hl 5 rfl) ?_
        refine lv_iconst (v := (4 : Int32)) hx hb dX5_foldedBits_15 (by decide) ?_
        refine lv_icmp_ge (tgt := 72) hx hb dX5_foldedBits_16 (by decide) (fun c21 => ?_) (fun c21 => ?_)
        · have hf := oo_t hf c21
          cases hf
          exact kk _ _ _ hP hD hS (lv_sub hl [0, 1, 2, 3, 4] rfl)
        · have hf := oo_f hf c21
          refine lv_aload_n hx hb dX5_foldedBits_19 rfl (lv_at hl 0 rfl) ?_
          refine va_get (ci := 5) (v := .ref (ad 12)) (C := RX5) (T := TX5) (N := 10) hx hb hts hin_X5 hown hK hP 0 rfl rfl 3 (by decide) fl_33 (fun _ h9 => h9) rfl dX5_foldedBits_20 ?_
          refine lv_iload hx hb dX5_foldedBits_23 (lv_at hl 5 rfl) ?_
          obtain ⟨r23, h22, hf⟩ := oo_b hf
          try dsimp only at hf
          have F : Fr D A _ (wdB cI cJ ad bn_links) (wdB cI cJ ad bn_links) (wdX cI cJ ad xx_netsRead xx_timesSent xx_passagesSent xx_astraySent xx_loopsSent pg_codes pg_length gr_nodes gr_links gr_start gr_end gr_linkBetween gr_wayLength gr_wayNext gr_wayLinks mk_width mk_drawn mk_seed mk_nextSeed mk_bits bn_links fl_foldBits fl_passages fl_astray fl_loops fl_steps fl_reached fl_matchingAside) := fr_X_B hP hD hS hA
          refine kI F hS (rV (q := (RX0, TX0, 1)) (As := [.int x7_a13]) (rest := []) ⟨hx, hb, hml, hown, hts⟩ hK hN F (c_X0_linksAt l D cI cJ ad _ (bn_links := bn_links) x7_a13 (o_res := r23) h22) (cwV 1 hts gX5_foldedBits_X0_linksAt rfl rfl rfl (by decide +kernel) ⟨Nat.le_of_ble_eq_true rfl, Nat.le_of_ble_eq_true rfl⟩) (ci := 0) rfl rfl rfl hl.1 rfl (Nat.le_of_ble_eq_true rfl) dX5_foldedBits_25 ⟨Nat.zero_le _, Nat.zero_le _⟩) (fun H locs hP hD hS => ?_)
          refine lv_istore (lv' := [(8, .int r23), (0, .ref (ad 0)), (1, .int x1), (2, .int x2), (4, .long x4_a13), (6, .int x6_a13), (7, .int x7_a13)]) hx hb dX5_foldedBits_28 hl (by decide) rfl (fun ls hl => ?_)
          refine lv_iload hx hb dX5_foldedBits_30 (lv_at hl 0 rfl) ?_
          obtain ⟨⟨x4_25, x6_26⟩, hj28, hf⟩ := oo_b hf
          try dsimp only at hf
          have kj27 : ∀ (H : Heap) (locs : List Loc) (ls : Array Slot), va_P D vwCl (wdX cI cJ ad xx_netsRead xx_timesSent xx_passagesSent xx_astraySent xx_loopsSent pg_codes pg_length gr_nodes gr_links gr_start gr_end gr_linkBetween gr_wayLength gr_wayNext gr_wayLinks mk_width mk_drawn mk_seed mk_nextSeed mk_bits bn_links fl_foldBits fl_passages fl_astray fl_loops fl_steps fl_reached fl_matchingAside) H → va_D A (wdX cI cJ ad xx_netsRead xx_timesSent xx_passagesSent xx_astraySent xx_loopsSent pg_codes pg_length gr_nodes gr_links gr_start gr_end gr_linkBetween gr_wayLength gr_wayNext gr_wayLinks mk_width mk_drawn mk_seed mk_nextSeed mk_bits bn_links fl_foldBits fl_passages fl_astray fl_loops fl_steps fl_reached fl_matchingAside) → va_S A s.heap H locs → lv_has ls 9 [(0, .ref (ad 0)), (1, .int x1), (2, .int x2), (4, .long x4_25), (6, .int x6_26), (7, .int x7_a13)] → W p l e rm_X5_foldedBits s m args below meth c H locs 0 0 Q (F0 m 66 ls []) := by
            intro H locs ls hP hD hS hl
            refine lv_iinc (v := (x7_a13 + (1 : Int32))) (lv' := [(7, .int (x7_a13 + (1 : Int32))), (0, .ref (ad 0)), (1, .int x1), (2, .int x2), (4, .long x4_25), (6, .int x6_26)]) hx hb dX5_foldedBits_66 hl (k := 5) rfl rfl (by decide) rfl (fun ls hl => ?_)
            refine lv_goto (tgt := 13) hx hb dX5_foldedBits_69 (by decide) ?_
            exact ih x4_25 x6_26 (x7_a13 + (1 : Int32)) _ _ hf kk _ _ _ hP hD hS (lv_sub hl [1, 2, 3, 4, 5, 0] rfl)
          clear hf
          have hf := hj28
          clear hj28
          refine lv_if_eq (tgt := 66) hx hb dX5_foldedBits_32 (by decide) (fun c29 => ?_) (fun c29 => ?_)
          · have hf := oo_t hf c29
            cases hf
            exact kj27 _ _ _ hP hD hS (lv_sub hl [1, 2, 3, 4, 5, 6] rfl)
          · have hf := oo_f hf c29
            refine lv_iload hx hb dX5_foldedBits_35 (lv_at hl 0 rfl) ?_
            refine lv_iload_n hx hb dX5_foldedBits_37 rfl (lv_at hl 2 rfl) ?_
            refine lv_iconst (v := (-1 : Int32)) hx hb dX5_foldedBits_38 (by decide) ?_
            refine lv_ixor hx hb dX5_foldedBits_39 ?_
            refine lv_iand hx hb dX5_foldedBits_40 ?_
            refine lv_if_ne (tgt := 66) hx hb dX5_foldedBits_41 (by decide) (fun c30 => ?_) (fun c30 => ?_)
            · have hf := oo_f hf c30
              cases hf
              exact kj27 _ _ _ hP hD hS (lv_sub hl [1, 2, 3, 4, 5, 6] rfl)
            · have hf := oo_t hf c30
              refine lv_lload hx hb dX5_foldedBits_44 (lv_at hl 4 rfl) ?_
              refine lv_aload_n hx hb dX5_foldedBits_46 rfl (lv_at hl 1 rfl) ?_
              refine va_get (ci := 5) (v := .ref (ad 10)) (C := RX5) (T := TX5) (N := 10) hx hb hts hin_X5 hown hK hP 0 rfl rfl 2 (by decide) fl_26 (fun _ h9 => h9) rfl dX5_foldedBits_47 ?_
              refine lv_iload hx hb dX5_foldedBits_50 (lv_at hl 6 rfl) ?_
              refine lv_iload_n hx hb dX5_foldedBits_52 rfl (lv_at hl 3 rfl) ?_
              obtain ⟨r32, h31, hf⟩ := oo_b hf
              try dsimp only at hf
              have F : Fr D A _ (wdK cI cJ ad mk_width mk_drawn mk_seed mk_nextSeed mk_bits) (wdK cI cJ ad mk_width mk_drawn mk_seed mk_nextSeed mk_bits) (wdX cI cJ ad xx_netsRead xx_timesSent xx_passagesSent xx_astraySent xx_loopsSent pg_codes pg_length gr_nodes gr_links gr_start gr_end gr_linkBetween gr_wayLength gr_wayNext gr_wayLinks mk_width mk_drawn mk_seed mk_nextSeed mk_bits bn_links fl_foldBits fl_passages fl_astray fl_loops fl_steps fl_reached fl_matchingAside) := fr_X_K hP hD hS hA
              refine kL F hS (rV (q := (RX3, TX3, 5)) (As := [.int x7_a13, .int x2]) (rest := [.long x4_a13]) ⟨hx, hb, hml, hown, hts⟩ hK hN F (c_X3_ofBundle l D cI cJ ad _ (mk_width := mk_width) (mk_drawn := mk_drawn) (mk_seed := mk_seed) (mk_nextSeed := mk_nextSeed) (mk_bits := mk_bits) x7_a13 x2 (o_res := r32) h31) (cwV 2 hts gX5_foldedBits_X3_ofBundle rfl rfl rfl (by decide +kernel) ⟨Nat.le_of_ble_eq_true rfl, Nat.le_of_ble_eq_true rfl⟩) (ci := 3) rfl rfl rfl hl.1 rfl (Nat.le_of_ble_eq_true rfl) dX5_foldedBits_53 ⟨Nat.zero_le _, Nat.zero_le _⟩) (fun H locs hP hD hS => ?_)
              refine lv_lor hx hb dX5_foldedBits_56 ?_
              refine lv_lstore (lv' := [(4, .long (x4_a13 ||| r32)), (8, .int r23), (0, .ref (ad 0)), (1, .int x1), (2, .int x2), (6, .int x6_a13), (7, .int x7_a13)]) hx hb dX5_foldedBits_57 hl (by decide) rfl (fun ls hl => ?_)
              refine lv_iload hx hb dX5_foldedBits_59 (lv_at hl 5 rfl) ?_
              refine lv_iload hx hb dX5_foldedBits_61 (lv_at hl 1 rfl) ?_
              refine lv_ior hx hb dX5_foldedBits_63 ?_
              refine lv_istore (lv' := [(6, .int (x6_a13 ||| r23)), (4, .long (x4_a13 ||| r32)), (8, .int r23), (0, .ref (ad 0)), (1, .int x1), (2, .int x2), (7, .int x7_a13)]) hx hb dX5_foldedBits_64 hl (by decide) rfl (fun ls hl => ?_)
              cases hf
              exact kj27 _ _ _ hP hD hS (lv_sub hl [3, 4, 5, 1, 0, 6] rfl)
    obtain ⟨⟨x4_o18, x6_o19⟩, h34, hf⟩ := oo_b hf
    try dsimp only at hf
    refine lp20  100 (0 : Int64) (0 : Int32) (0 : Int32) x4_o18 x6_o19 h34 (fun H locs ls hP hD hS hl => ?_) _ _ _ hP hD hS (lv_sub hl [3, 4, 5, 2, 1, 0] rfl)
    cases hf
    exact kj3 _ _ _ hP hD hS (lv_sub hl [0, 1, 2, 3, 4] rfl)
