def f_X5_best (gr_nodes : Int32) (gr_links : Int32) (gr_start : Nat → Int32) (gr_end : Nat → Int32) (gr_wayLinks : Nat → Int32) (mk_bits : Nat → Int64) (bn_links : Nat → Int32) (fl_foldBits : Int32) (fl_passages : Int32) (fl_astray : Int32) (fl_loops : Int32) (fl_steps : Int32) (fl_reached : Int32) (fl_matchingAside : Int32) (x1 : Int32) (x2 : Int32) (x3 : Int32) : Option (Int32 × Int32 × Int32 × Int32 × Int32 × Int32 × Int32 × Int32) :=
  if (f_X2_hasNode gr_nodes x1) = (0 : Int32) then
    some ((-1001 : Int32), fl_foldBits, fl_passages, fl_astray, fl_loops, fl_steps, fl_reached, fl_matchingAside)
  else
    if (f_X2_hasNodes gr_nodes x2) = (0 : Int32) then
      some ((-1002 : Int32), fl_foldBits, fl_passages, fl_astray, fl_loops, fl_steps, fl_reached, fl_matchingAside)
    else
      Option.bind (f_X5_bestVariant gr_nodes gr_links gr_start gr_end gr_wayLinks mk_bits bn_links fl_foldBits fl_passages fl_astray fl_loops fl_steps fl_reached fl_matchingAside x1 x2 x3) fun (r6, fl_foldBits_7, fl_passages_8, fl_astray_9, fl_loops_10, fl_steps_11, fl_reached_12, fl_matchingAside_13) =>
      some (r6, fl_foldBits_7, fl_passages_8, fl_astray_9, fl_loops_10, fl_steps_11, fl_reached_12, fl_matchingAside_13)
abbrev rm_X5_best : Room := { frames := 5, cells := 0, slots := 0, locals := 130 }
set_option maxHeartbeats 4000000 in
set_option maxRecDepth 100000 in
theorem c_X5_best (l : Launch) (D : va_G) (cI cJ : ClassId) (ad : Nat → Nat) (sz : Nat) {xx_netsRead xx_timesSent xx_passagesSent xx_astraySent xx_loopsSent : Int32} {pg_codes : Nat → Int32} {pg_length gr_nodes gr_links : Int32} {gr_start gr_end gr_linkBetween gr_wayLength gr_wayNext gr_wayLinks : Nat → Int32} {mk_width mk_drawn mk_seed : Int32} {mk_nextSeed : Int64} {mk_bits : Nat → Int64} {bn_links : Nat → Int32} {fl_foldBits fl_passages fl_astray fl_loops fl_steps fl_reached fl_matchingAside : Int32} (x1 : Int32) (x2 : Int32) (x3 : Int32) {o_res : Int32} {o_fl_foldBits : Int32} {o_fl_passages : Int32} {o_fl_astray : Int32} {o_fl_loops : Int32} {o_fl_steps : Int32} {o_fl_reached : Int32} {o_fl_matchingAside : Int32} (hf : f_X5_best gr_nodes gr_links gr_start gr_end gr_wayLinks mk_bits bn_links fl_foldBits fl_passages fl_astray fl_loops fl_steps fl_reached fl_matchingAside x1 x2 x3 = some (o_res, o_fl_foldBits, o_fl_passages, o_fl_astray, o_fl_loops, o_fl_steps, o_fl_reached, o_fl_matchingAside)) : CtI l yX5_best wsX5_best rm_X5_best D cI cJ [.ref (ad 0), .int x1, .int x2, .int x3] (wdX cI cJ ad xx_netsRead xx_timesSent xx_passagesSent xx_astraySent xx_loopsSent pg_codes pg_length gr_nodes gr_links gr_start gr_end gr_linkBetween gr_wayLength gr_wayNext gr_wayLinks mk_width mk_drawn mk_seed mk_nextSeed mk_bits bn_links fl_foldBits fl_passages fl_astray fl_loops fl_steps fl_reached fl_matchingAside) sz o_res (wdX cI cJ ad xx_netsRead xx_timesSent xx_passagesSent xx_astraySent xx_loopsSent pg_codes pg_length gr_nodes gr_links gr_start gr_end gr_linkBetween gr_wayLength gr_wayNext gr_wayLinks mk_width mk_drawn mk_seed mk_nextSeed mk_bits bn_links o_fl_foldBits o_fl_passages o_fl_astray o_fl_loops o_fl_steps o_fl_reached o_fl_matchingAside) := by
  refine ctI_of (cc := cX5_best) (maxL := 4) (by decide) rfl (Nat.le_of_ble_eq_true rfl) ?_
  intro p e s m below meth c Q A hx hb hml hown hts hK hN hA hret ls hl hP hD hS
  obtain ⟨args, hargs⟩ : ∃ a : Array Value, a = [.ref (ad 0), .int x1, .int x2, .int x3].toArray := ⟨_, rfl⟩
  rw [← hargs] at hts hret ⊢
  have hown : s.vm.findClass RX5 = some m.cls := hown
  have hl : lv_has ls 4 [(0, .ref (ad 0)), (1, .int x1), (2, .int x2), (3, .int x3)] := hl
  have hin_X5 : ∀ w ∈ wsX50, w ∈ wsX5_best := fun _ h => List.mem_cons_of_mem _ (List.mem_append_left _ (List.mem_append_left _ (List.mem_append_left _ (List.mem_append_left _ (List.mem_append_right _ h)))))
  have fl_19 : (Cond.fieldLink RX5 19 "FoldedWays" "graph" "LFoldedWays$Graph;").before args s = true := hat hts 1 rfl
  unfold f_X5_best at hf
  refine lv_aload_n hx hb dX5_best_0 rfl (lv_at hl 0 rfl) ?_
  refine va_get (ci := 5) (v := .ref (ad 3)) (C := RX5) (T := TX5) (N := 10) hx hb hts hin_X5 hown hK hP 0 rfl rfl 1 (by decide) fl_19 (fun _ h9 => h9) rfl dX5_best_1 ?_
  refine lv_iload_n hx hb dX5_best_4 rfl (lv_at hl 1 rfl) ?_
  have F : Fr D A _ (wdG cI cJ ad gr_nodes gr_links gr_start gr_end gr_linkBetween gr_wayLength gr_wayNext gr_wayLinks) (wdG cI cJ ad gr_nodes gr_links gr_start gr_end gr_linkBetween gr_wayLength gr_wayNext gr_wayLinks) (wdX cI cJ ad xx_netsRead xx_timesSent xx_passagesSent xx_astraySent xx_loopsSent pg_codes pg_length gr_nodes gr_links gr_start gr_end gr_linkBetween gr_wayLength gr_wayNext gr_wayLinks mk_width mk_drawn mk_seed mk_nextSeed mk_bits bn_links fl_foldBits fl_passages fl_astray fl_loops fl_steps fl_reached fl_matchingAside) := fr_X_G hP hD hS hA
  refine kZ F hS (rV (q := (RX2, TX2, 8)) (As := [.int x1]) (rest := []) ⟨hx, hb, hml, hown, hts⟩ hK hN F (c_X2_hasNode l D cI cJ ad _ (gr_nodes := gr_nodes) (gr_links := gr_links) (gr_start := gr_start) (gr_end := gr_end) (gr_linkBetween := gr_linkBetween) (gr_wayLength := gr_wayLength) (gr_wayNext := gr_wayNext) (gr_wayLinks := gr_wayLinks) x1 (o_res := (f_X2_hasNode gr_nodes x1)) rfl) (cwV 1 hts gX5_best_X2_hasNode rfl rfl rfl (by decide +kernel) ⟨Nat.le_of_ble_eq_true rfl, Nat.le_of_ble_eq_true rfl⟩) (ci := 2) rfl rfl rfl hl.1 rfl (Nat.le_of_ble_eq_true rfl) dX5_best_5 ⟨Nat.zero_le _, Nat.zero_le _⟩) (fun H locs hb1 hP hD hS => ?_)
  refine lv_if_ne (tgt := 15) hx hb dX5_best_8 (by decide) (fun c2 => ?_) (fun c2 => ?_)
  · have hf := oo_f hf c2
    refine lv_aload_n hx hb dX5_best_15 rfl (lv_at hl 0 rfl) ?_
    refine va_get (ci := 5) (v := .ref (ad 3)) (C := RX5) (T := TX5) (N := 10) hx hb hts hin_X5 hown hK hP 0 rfl rfl 1 (by decide) fl_19 (fun _ h9 => h9) rfl dX5_best_16 ?_
    refine lv_iload_n hx hb dX5_best_19 rfl (lv_at hl 2 rfl) ?_
    have F : Fr D A _ (wdG cI cJ ad gr_nodes gr_links gr_start gr_end gr_linkBetween gr_wayLength gr_wayNext gr_wayLinks) (wdG cI cJ ad gr_nodes gr_links gr_start gr_end gr_linkBetween gr_wayLength gr_wayNext gr_wayLinks) (wdX cI cJ ad xx_netsRead xx_timesSent xx_passagesSent xx_astraySent xx_loopsSent pg_codes pg_length gr_nodes gr_links gr_start gr_end gr_linkBetween gr_wayLength gr_wayNext gr_wayLinks mk_width mk_drawn mk_seed mk_nextSeed mk_bits bn_links fl_foldBits fl_passages fl_astray fl_loops fl_steps fl_reached fl_matchingAside) := fr_X_G hP hD hS hA
    refine kZ F hS (rV (q := (RX2, TX2, 8)) (As := [.int x2]) (rest := []) ⟨hx, hb, hml, hown, hts⟩ hK hN F (c_X2_hasNodes l D cI cJ ad _ (gr_nodes := gr_nodes) (gr_links := gr_links) (gr_start := gr_start) (gr_end := gr_end) (gr_linkBetween := gr_linkBetween) (gr_wayLength := gr_wayLength) (gr_wayNext := gr_wayNext) (gr_wayLinks := gr_wayLinks) x2 (o_res := (f_X2_hasNodes gr_nodes x2)) rfl) (cwV 1 hts gX5_best_X2_hasNodes rfl rfl rfl (by decide +kernel) ⟨Nat.le_of_ble_eq_true rfl, Nat.le_of_ble_eq_true rfl⟩) (ci := 2) rfl rfl rfl hl.1 rfl (Nat.le_of_ble_eq_true rfl) dX5_best_20 ⟨Nat.zero_le _, Nat.zero_le _⟩) (fun H locs hb3 hP hD hS => ?_)
    refine lv_if_ne (tgt := 30) hx hb dX5_best_23 (by decide) (fun c4 => ?_) (fun c4 => ?_)
    · have hf := oo_f hf c4
      refine lv_aload_n hx hb dX5_best_30 rfl (lv_at hl 0 rfl) ?_
      refine lv_iload_n hx hb dX5_best_31 rfl (lv_at hl 1 rfl) ?_
      refine lv_iload_n hx hb dX5_best_32 rfl (lv_at hl 2 rfl) ?_
      refine lv_iload_n hx hb dX5_best_33 rfl (lv_at hl 3 rfl) ?_
      obtain ⟨⟨r6, fl_foldBits_7, fl_passages_8, fl_astray_9, fl_loops_10, fl_steps_11, fl_reached_12, fl_matchingAside_13⟩, h5, hf⟩ := oo_b hf
      try dsimp only at hf
      have F : Fr D A _ (wdX cI cJ ad xx_netsRead xx_timesSent xx_passagesSent xx_astraySent xx_loopsSent pg_codes pg_length gr_nodes gr_links gr_start gr_end gr_linkBetween gr_wayLength gr_wayNext gr_wayLinks mk_width mk_drawn mk_seed mk_nextSeed mk_bits bn_links fl_foldBits fl_passages fl_astray fl_loops fl_steps fl_reached fl_matchingAside) (wdX cI cJ ad xx_netsRead xx_timesSent xx_passagesSent xx_astraySent xx_loopsSent pg_codes pg_length gr_nodes gr_links gr_start gr_end gr_linkBetween gr_wayLength gr_wayNext gr_wayLinks mk_width mk_drawn mk_seed mk_nextSeed mk_bits bn_links fl_foldBits_7 fl_passages_8 fl_astray_9 fl_loops_10 fl_steps_11 fl_reached_12 fl_matchingAside_13) (wdX cI cJ ad xx_netsRead xx_timesSent xx_passagesSent xx_astraySent xx_loopsSent pg_codes pg_length gr_nodes gr_links gr_start gr_end gr_linkBetween gr_wayLength gr_wayNext gr_wayLinks mk_width mk_drawn mk_seed mk_nextSeed mk_bits bn_links fl_foldBits_7 fl_passages_8 fl_astray_9 fl_loops_10 fl_steps_11 fl_reached_12 fl_matchingAside_13) := fr_self hP hD hS hA
      refine kI F hS (rV (q := (RX5, TX5, 10)) (As := [.int x1, .int x2, .int x3]) (rest := []) ⟨hx, hb, hml, hown, hts⟩ hK hN F (c_X5_bestVariant l D cI cJ ad _ (xx_netsRead := xx_netsRead) (xx_timesSent := xx_timesSent) (xx_passagesSent := xx_passagesSent) (xx_astraySent := xx_astraySent) (xx_loopsSent := xx_loopsSent) (pg_codes := pg_codes) (pg_length := pg_length) (gr_nodes := gr_nodes) (gr_links := gr_links) (gr_start := gr_start) (gr_end := gr_end) (gr_linkBetween := gr_linkBetween) (gr_wayLength := gr_wayLength) (gr_wayNext := gr_wayNext) (gr_wayLinks := gr_wayLinks) (mk_width := mk_width) (mk_drawn := mk_drawn) (mk_seed := mk_seed) (mk_nextSeed := mk_nextSeed) (mk_bits := mk_bits) (bn_links := bn_links) (fl_foldBits := fl_foldBits) (fl_passages := fl_passages) (fl_astray := fl_astray) (fl_loops := fl_loops) (fl_steps := fl_steps) (fl_reached := fl_reached) (fl_matchingAside := fl_matchingAside) x1 x2 x3 (o_res := r6) (o_fl_foldBits := fl_foldBits_7) (o_fl_passages := fl_passages_8) (o_fl_astray := fl_astray_9) (o_fl_loops := fl_loops_10) (o_fl_steps := fl_steps_11) (o_fl_reached := fl_reached_12) (o_fl_matchingAside := fl_matchingAside_13) h5) (cwV 3 hts gX5_best_X5_bestVariant rfl rfl rfl (by decide +kernel) ⟨Nat.le_of_ble_eq_true rfl, Nat.le_of_ble_eq_true rfl⟩) (ci := 5) rfl rfl rfl hl.1 rfl (Nat.le_of_ble_eq_true rfl) dX5_best_34 ⟨Nat.zero_le _, Nat.zero_le _⟩) (fun H locs hP hD hS => ?_)
      cases hf
      exact hret _ _ _ _ dX5_best_37 hP hD hS
    · have hf := oo_t hf c4
      refine lv_sipush (v := (-1002 : Int32)) hx hb dX5_best_26 (by decide) ?_
      cases hf
      exact hret _ _ _ _ dX5_best_29 hP hD hS
  · have hf := oo_t hf c2
    refine lv_sipush (v := (-1001 : Int32)) hx hb dX5_best_11 (by decide) ?_
    cases hf
    exact hret _ _ _ _ dX5_best_14 hP hD hS
def f_X5_send (xx_timesSent : Int32) (xx_passagesSent : Int32) (xx_astraySent : Int32) (xx_loopsSent : Int32) (gr_nodes : Int32) (gr_links : Int32) (gr_start : Nat → Int32) (gr_end : Nat → Int32) (gr_wayLinks : Nat → Int32) (mk_bits : Nat → Int64) (bn_links : Nat → Int32) (fl_foldBits : Int32) (fl_passages : Int32) (fl_astray : Int32) (fl_loops : Int32) (fl_steps : Int32) (fl_reached : Int32) (fl_matchingAside : Int32) (x1 : Int32) (x2 : Int32) (x3 : Int32) : Option (Int32 × Int32 × Int32 × Int32 × Int32 × Int32 × Int32 × Int32 × Int32 × Int32 × Int32 × Int32) :=
  if (f_X2_hasNode gr_nodes x1) = (0 : Int32) then
    some ((-1001 : Int32), xx_timesSent, xx_passagesSent, xx_astraySent, xx_loopsSent, fl_foldBits, fl_passages, fl_astray, fl_loops, fl_steps, fl_reached, fl_matchingAside)
  else
    if (f_X2_hasNodes gr_nodes x2) = (0 : Int32) then
      some ((-1002 : Int32), xx_timesSent, xx_passagesSent, xx_astraySent, xx_loopsSent, fl_foldBits, fl_passages, fl_astray, fl_loops, fl_steps, fl_reached, fl_matchingAside)
    else
      Option.bind (f_X5_bestVariant gr_nodes gr_links gr_start gr_end gr_wayLinks mk_bits bn_links fl_foldBits fl_passages fl_astray fl_loops fl_steps fl_reached fl_matchingAside x1 x2 x3) fun (r6, fl_foldBits_7, fl_passages_8, fl_astray_9, fl_loops_10, fl_steps_11, fl_reached_12, fl_matchingAside_13) =>
      Option.bind (f_X5_spreadOut gr_nodes gr_links gr_start gr_end gr_wayLinks mk_bits bn_links x1 x2 r6 x3) fun (fl_foldBits_16, fl_passages_17, fl_astray_18, fl_loops_19, fl_steps_20, fl_reached_21, fl_matchingAside_22) =>
      some (fl_astray_18, (xx_timesSent + (1 : Int32)), (xx_passagesSent + fl_passages_17), (xx_astraySent + fl_astray_18), (xx_loopsSent + fl_loops_19), fl_foldBits_16, fl_passages_17, fl_astray_18, fl_loops_19, fl_steps_20, fl_reached_21, fl_matchingAside_22)
abbrev rm_X5_send : Room := { frames := 5, cells := 0, slots := 0, locals := 130 }
set_option maxHeartbeats 4000000 in
set_option maxRecDepth 100000 in
theorem c_X5_send (l : Launch) (D : va_G) (cI cJ : ClassId) (ad : Nat → Nat) (sz : Nat) {xx_netsRead xx_timesSent xx_passagesSent xx_astraySent xx_loopsSent : Int32} {pg_codes : Nat → Int32} {pg_length gr_nodes gr_links : Int32} {gr_start gr_end gr_linkBetween gr_wayLength gr_wayNext gr_wayLinks : Nat → Int32} {mk_width mk_drawn mk_seed : Int32} {mk_nextSeed : Int64} {mk_bits : Nat → Int64} {bn_links : Nat → Int32} {fl_foldBits fl_passages fl_astray fl_loops fl_steps fl_reached fl_matchingAside : Int32} (x1 : Int32) (x2 : Int32) (x3 : Int32) {o_res : Int32} {o_xx_timesSent : Int32} {o_xx_passagesSent : Int32} {o_xx_astraySent : Int32} {o_xx_loopsSent : Int32} {o_fl_foldBits : Int32} {o_fl_passages : Int32} {o_fl_astray : Int32} {o_fl_loops : Int32} {o_fl_steps : Int32} {o_fl_reached : Int32} {o_fl_matchingAside : Int32} (hf : f_X5_send xx_timesSent xx_passagesSent xx_astraySent xx_loopsSent gr_nodes gr_links gr_start gr_end gr_wayLinks mk_bits bn_links fl_foldBits fl_passages fl_astray fl_loops fl_steps fl_reached fl_matchingAside x1 x2 x3 = some (o_res, o_xx_timesSent, o_xx_passagesSent, o_xx_astraySent, o_xx_loopsSent, o_fl_foldBits, o_fl_passages, o_fl_astray, o_fl_loops, o_fl_steps, o_fl_reached, o_fl_matchingAside)) : CtI l yX5_send wsX5_send rm_X5_send D cI cJ [.ref (ad 0), .int x1, .int x2, .int x3] (wdX cI cJ ad xx_netsRead xx_timesSent xx_passagesSent xx_astraySent xx_loopsSent pg_codes pg_length gr_nodes gr_links gr_start gr_end gr_linkBetween gr_wayLength gr_wayNext gr_wayLinks mk_width mk_drawn mk_seed mk_nextSeed mk_bits bn_links fl_foldBits fl_passages fl_astray fl_loops fl_steps fl_reached fl_matchingAside) sz o_res (wdX cI cJ ad xx_netsRead o_xx_timesSent o_xx_passagesSent o_xx_astraySent o_xx_loopsSent pg_codes pg_length gr_nodes gr_links gr_start gr_end gr_linkBetween gr_wayLength gr_wayNext gr_wayLinks mk_width mk_drawn mk_seed mk_nextSeed mk_bits bn_links o_fl_foldBits o_fl_passages o_fl_astray o_fl_loops o_fl_steps o_fl_reached o_fl_matchingAside) := by
  refine ctI_of (cc := cX5_send) (maxL := 4) (by decide) rfl (Nat.le_of_ble_eq_true rfl) ?_
  intro p e s m below meth c Q A hx hb hml hown hts hK hN hA hret ls hl hP hD hS
  obtain ⟨args, hargs⟩ : ∃ a : Array Value, a = [.ref (ad 0), .int x1, .int x2, .int x3].toArray := ⟨_, rfl⟩
  rw [← hargs] at hts hret ⊢
  have hown : s.vm.findClass RX5 = some m.cls := hown
  have hl : lv_has ls 4 [(0, .ref (ad 0)), (1, .int x1), (2, .int x2), (3, .int x3)] := hl
  have hin_X1 : ∀ w ∈ wsX10, w ∈ wsX5_send := fun _ h => List.mem_cons_of_mem _ (List.mem_append_left _ (List.mem_append_left _ (List.mem_append_left _ (List.mem_append_right _ h))))
  have hin_X5 : ∀ w ∈ wsX50, w ∈ wsX5_send := fun _ h => List.mem_cons_of_mem _ (List.mem_append_left _ (List.mem_append_left _ (List.mem_append_left _ (List.mem_append_left _ (List.mem_append_right _ h)))))
  have fl_19 : (Cond.fieldLink RX5 19 "FoldedWays" "graph" "LFoldedWays$Graph;").before args s = true := hat hts 1 rfl
  have fl_40 : (Cond.fieldLink RX5 40 "FoldedWays" "flow" "LFoldedWays$Flow;").before args s = true := hat hts 4 rfl
  have fl_165 : (Cond.fieldLink RX5 165 "FoldedWays" "timesSent" "I").before args s = true := hat hts 2 rfl
  have fl_168 : (Cond.fieldLink RX5 168 "FoldedWays" "passagesSent" "I").before args s = true := hat hts 3 rfl
  have fl_171 : (Cond.fieldLink RX5 171 "FoldedWays$Flow" "passages" "I").before args s = true := hat hts 5 rfl
  have fl_174 : (Cond.fieldLink RX5 174 "FoldedWays" "astraySent" "I").before args s = true := hat hts 6 rfl
  have fl_177 : (Cond.fieldLink RX5 177 "FoldedWays$Flow" "astray" "I").before args s = true := hat hts 7 rfl
  have fl_180 : (Cond.fieldLink RX5 180 "FoldedWays" "loopsSent" "I").before args s = true := hat hts 8 rfl
  have fl_183 : (Cond.fieldLink RX5 183 "FoldedWays$Flow" "loops" "I").before args s = true := hat hts 9 rfl
  unfold f_X5_send at hf
  refine lv_aload_n hx hb dX5_send_0 rfl (lv_at hl 0 rfl) ?_
  refine va_get (ci := 5) (v := .ref (ad 3)) (C := RX5) (T := TX5) (N := 10) hx hb hts hin_X5 hown hK hP 0 rfl rfl 1 (by decide) fl_19 (fun _ h9 => h9) rfl dX5_send_1 ?_
  refine lv_iload_n hx hb dX5_send_4 rfl (lv_at hl 1 rfl) ?_
  have F : Fr D A _ (wdG cI cJ ad gr_nodes gr_links gr_start gr_end gr_linkBetween gr_wayLength gr_wayNext gr_wayLinks) (wdG cI cJ ad gr_nodes gr_links gr_start gr_end gr_linkBetween gr_wayLength gr_wayNext gr_wayLinks) (wdX cI cJ ad xx_netsRead xx_timesSent xx_passagesSent xx_astraySent xx_loopsSent pg_codes pg_length gr_nodes gr_links gr_start gr_end gr_linkBetween gr_wayLength gr_wayNext gr_wayLinks mk_width mk_drawn mk_seed mk_nextSeed mk_bits bn_links fl_foldBits fl_passages fl_astray fl_loops fl_steps fl_reached fl_matchingAside) := fr_X_G hP hD hS hA
  refine kZ F hS (rV (q := (RX2, TX2, 8)) (As := [.int x1]) (rest := []) ⟨hx, hb, hml, hown, hts⟩ hK hN F (c_X2_hasNode l D cI cJ ad _ (gr_nodes := gr_nodes) (gr_links := gr_links) (gr_start := gr_start) (gr_end := gr_end) (gr_linkBetween := gr_linkBetween) (gr_wayLength := gr_wayLength) (gr_wayNext := gr_wayNext) (gr_wayLinks := gr_wayLinks) x1 (o_res := (f_X2_hasNode gr_nodes x1)) rfl) (cwV 1 hts gX5_send_X2_hasNode rfl rfl rfl (by decide +kernel) ⟨Nat.le_of_ble_eq_true rfl, Nat.le_of_ble_eq_true rfl⟩) (ci := 2) rfl rfl rfl hl.1 rfl (Nat.le_of_ble_eq_true rfl) dX5_send_5 ⟨Nat.zero_le _, Nat.zero_le _⟩) (fun H locs hb1 hP hD hS => ?_)
  refine lv_if_ne (tgt := 15) hx hb dX5_send_8 (by decide) (fun c2 => ?_) (fun c2 => ?_)
  · have hf := oo_f hf c2
    refine lv_aload_n hx hb dX5_send_15 rfl (lv_at hl 0 rfl) ?_
    refine va_get (ci := 5) (v := .ref (ad 3)) (C := RX5) (T := TX5) (N := 10) hx hb hts hin_X5 hown hK hP 0 rfl rfl 1 (by decide) fl_19 (fun _ h9 => h9) rfl dX5_send_16 ?_
    refine lv_iload_n hx hb dX5_send_19 rfl (lv_at hl 2 rfl) ?_
    have F : Fr D A _ (wdG cI cJ ad gr_nodes gr_links gr_start gr_end gr_linkBetween gr_wayLength gr_wayNext gr_wayLinks) (wdG cI cJ ad gr_nodes gr_links gr_start gr_end gr_linkBetween gr_wayLength gr_wayNext gr_wayLinks) (wdX cI cJ ad xx_netsRead xx_timesSent xx_passagesSent xx_astraySent xx_loopsSent pg_codes pg_length gr_nodes gr_links gr_start gr_end gr_linkBetween gr_wayLength gr_wayNext gr_wayLinks mk_width mk_drawn mk_seed mk_nextSeed mk_bits bn_links fl_foldBits fl_passages fl_astray fl_loops fl_steps fl_reached fl_matchingAside) := fr_X_G hP hD hS hA
    refine kZ F hS (rV (q := (RX2, TX2, 8)) (As := [.int x2]) (rest := []) ⟨hx, hb, hml, hown, hts⟩ hK hN F (c_X2_hasNodes l D cI cJ ad _ (gr_nodes := gr_nodes) (gr_links := gr_links) (gr_start := gr_start) (gr_end := gr_end) (gr_linkBetween := gr_linkBetween) (gr_wayLength := gr_wayLength) (gr_wayNext := gr_wayNext) (gr_wayLinks := gr_wayLinks) x2 (o_res := (f_X2_hasNodes gr_nodes x2)) rfl) (cwV 1 hts gX5_send_X2_hasNodes rfl rfl rfl (by decide +kernel) ⟨Nat.le_of_ble_eq_true rfl, Nat.le_of_ble_eq_true rfl⟩) (ci := 2) rfl rfl rfl hl.1 rfl (Nat.le_of_ble_eq_true rfl) dX5_send_20 ⟨Nat.zero_le _, Nat.zero_le _⟩) (fun H locs hb3 hP hD hS => ?_)
    refine lv_if_ne (tgt := 30) hx hb dX5_send_23 (by decide) (fun c4 => ?_) (fun c4 => ?_)
    · have hf := oo_f hf c4
      refine lv_aload_n hx hb dX5_send_30 rfl (lv_at hl 0 rfl) ?_
      refine lv_iload_n hx hb dX5_send_31 rfl (lv_at hl 1 rfl) ?_
      refine lv_iload_n hx hb dX5_send_32 rfl (lv_at hl 2 rfl) ?_
      refine lv_aload_n hx hb dX5_send_33 rfl (lv_at hl 0 rfl) ?_
      refine lv_iload_n hx hb dX5_send_34 rfl (lv_at hl 1 rfl) ?_
      refine lv_iload_n hx hb dX5_send_35 rfl (lv_at hl 2 rfl) ?_
      refine lv_iload_n hx hb dX5_send_36 rfl (lv_at hl 3 rfl) ?_
      obtain ⟨⟨r6, fl_foldBits_7, fl_passages_8, fl_astray_9, fl_loops_10, fl_steps_11, fl_reached_12, fl_matchingAside_13⟩, h5, hf⟩ := oo_b hf
      try dsimp only at hf
      have F : Fr D A _ (wdX cI cJ ad xx_netsRead xx_timesSent xx_passagesSent xx_astraySent xx_loopsSent pg_codes pg_length gr_nodes gr_links gr_start gr_end gr_linkBetween gr_wayLength gr_wayNext gr_wayLinks mk_width mk_drawn mk_seed mk_nextSeed mk_bits bn_links fl_foldBits fl_passages fl_astray fl_loops fl_steps fl_reached fl_matchingAside) (wdX cI cJ ad xx_netsRead xx_timesSent xx_passagesSent xx_astraySent xx_loopsSent pg_codes pg_length gr_nodes gr_links gr_start gr_end gr_linkBetween gr_wayLength gr_wayNext gr_wayLinks mk_width mk_drawn mk_seed mk_nextSeed mk_bits bn_links fl_foldBits_7 fl_passages_8 fl_astray_9 fl_loops_10 fl_steps_11 fl_reached_12 fl_matchingAside_13) (wdX cI cJ ad xx_netsRead xx_timesSent xx_passagesSent xx_astraySent xx_loopsSent pg_codes pg_length gr_nodes gr_links gr_start gr_end gr_linkBetween gr_wayLength gr_wayNext gr_wayLinks mk_width mk_drawn mk_seed mk_nextSeed mk_bits bn_links fl_foldBits_7 fl_passages_8 fl_astray_9 fl_loops_10 fl_steps_11 fl_reached_12 fl_matchingAside_13) := fr_self hP hD hS hA
      refine kI F hS (rV (q := (RX5, TX5, 10)) (As := [.int x1, .int x2, .int x3]) (rest := [.int x2, .int x1, .ref (ad 0)]) ⟨hx, hb, hml, hown, hts⟩ hK hN F (c_X5_bestVariant l D cI cJ ad _ (xx_netsRead := xx_netsRead) (xx_timesSent := xx_timesSent) (xx_passagesSent := xx_passagesSent) (xx_astraySent := xx_astraySent) (xx_loopsSent := xx_loopsSent) (pg_codes := pg_codes) (pg_length := pg_length) (gr_nodes := gr_nodes) (gr_links := gr_links) (gr_start := gr_start) (gr_end := gr_end) (gr_linkBetween := gr_linkBetween) (gr_wayLength := gr_wayLength) (gr_wayNext := gr_wayNext) (gr_wayLinks := gr_wayLinks) (mk_width := mk_width) (mk_drawn := mk_drawn) (mk_seed := mk_seed) (mk_nextSeed := mk_nextSeed) (mk_bits := mk_bits) (bn_links := bn_links) (fl_foldBits := fl_foldBits) (fl_passages := fl_passages) (fl_astray := fl_astray) (fl_loops := fl_loops) (fl_steps := fl_steps) (fl_reached := fl_reached) (fl_matchingAside := fl_matchingAside) x1 x2 x3 (o_res := r6) (o_fl_foldBits := fl_foldBits_7) (o_fl_passages := fl_passages_8) (o_fl_astray := fl_astray_9) (o_fl_loops := fl_loops_10) (o_fl_steps := fl_steps_11) (o_fl_reached := fl_reached_12) (o_fl_matchingAside := fl_matchingAside_13) h5) (cwV 3 hts gX5_send_X5_bestVariant rfl rfl rfl (by decide +kernel) ⟨Nat.le_of_ble_eq_true rfl, Nat.le_of_ble_eq_true rfl⟩) (ci := 5) rfl rfl rfl hl.1 rfl (Nat.le_of_ble_eq_true rfl) dX5_send_37 ⟨Nat.zero_le _, Nat.zero_le _⟩) (fun H locs hP hD hS => ?_)
      refine lv_iload_n hx hb dX5_send_40 rfl (lv_at hl 3 rfl) ?_
      obtain ⟨⟨fl_foldBits_16, fl_passages_17, fl_astray_18, fl_loops_19, fl_steps_20, fl_reached_21, fl_matchingAside_22⟩, h15, hf⟩ := oo_b hf
      try dsimp only at hf
      have F : Fr D A _ (wdX cI cJ ad xx_netsRead xx_timesSent xx_passagesSent xx_astraySent xx_loopsSent pg_codes pg_length gr_nodes gr_links gr_start gr_end gr_linkBetween gr_wayLength gr_wayNext gr_wayLinks mk_width mk_drawn mk_seed mk_nextSeed mk_bits bn_links fl_foldBits_7 fl_passages_8 fl_astray_9 fl_loops_10 fl_steps_11 fl_reached_12 fl_matchingAside_13) (wdX cI cJ ad xx_netsRead xx_timesSent xx_passagesSent xx_astraySent xx_loopsSent pg_codes pg_length gr_nodes gr_links gr_start gr_end gr_linkBetween gr_wayLength gr_wayNext gr_wayLinks mk_width mk_drawn mk_seed mk_nextSeed mk_bits bn_links fl_foldBits_16 fl_passages_17 fl_astray_18 fl_loops_19 fl_steps_20 fl_reached_21 fl_matchingAside_22) (wdX cI cJ ad xx_netsRead xx_timesSent xx_passagesSent xx_astraySent xx_loopsSent pg_codes pg_length gr_nodes gr_links gr_start gr_end gr_linkBetween gr_wayLength gr_wayNext gr_wayLinks mk_width mk_drawn mk_seed mk_nextSeed mk_bits bn_links fl_foldBits_16 fl_passages_17 fl_astray_18 fl_loops_19 fl_steps_20 fl_reached_21 fl_matchingAside_22) := fr_self hP hD hS hA
      refine kV F hS (rV (q := (RX5, TX5, 10)) (As := [.int x1, .int x2, .int r6, .int x3]) (rest := []) ⟨hx, hb, hml, hown, hts⟩ hK hN F (c_X5_spreadOut l D cI cJ ad _ (xx_netsRead := xx_netsRead) (xx_timesSent := xx_timesSent) (xx_passagesSent := xx_passagesSent) (xx_astraySent := xx_astraySent) (xx_loopsSent := xx_loopsSent) (pg_codes := pg_codes) (pg_length := pg_length) (gr_nodes := gr_nodes) (gr_links := gr_links) (gr_start := gr_start) (gr_end := gr_end) (gr_linkBetween := gr_linkBetween) (gr_wayLength := gr_wayLength) (gr_wayNext := gr_wayNext) (gr_wayLinks := gr_wayLinks) (mk_width := mk_width) (mk_drawn := mk_drawn) (mk_seed := mk_seed) (mk_nextSeed := mk_nextSeed) (mk_bits := mk_bits) (bn_links := bn_links) (fl_foldBits := fl_foldBits_7) (fl_passages := fl_passages_8) (fl_astray := fl_astray_9) (fl_loops := fl_loops_10) (fl_steps := fl_steps_11) (fl_reached := fl_reached_12) (fl_matchingAside := fl_matchingAside_13) x1 x2 r6 x3 (o_fl_foldBits := fl_foldBits_16) (o_fl_passages := fl_passages_17) (o_fl_astray := fl_astray_18) (o_fl_loops := fl_loops_19) (o_fl_steps := fl_steps_20) (o_fl_reached := fl_reached_21) (o_fl_matchingAside := fl_matchingAside_22) h15) (cwV 4 hts gX5_send_X5_spreadOut rfl rfl rfl (by decide +kernel) ⟨Nat.le_of_ble_eq_true rfl, Nat.le_of_ble_eq_true rfl⟩) (ci := 5) rfl rfl rfl hl.1 rfl (Nat.le_of_ble_eq_true rfl) dX5_send_41 ⟨Nat.zero_le _, Nat.zero_le _⟩) (fun H locs hP hD hS => ?_)
      refine lv_aload_n hx hb dX5_send_44 rfl (lv_at hl 0 rfl) ?_
      refine lv_dup hx hb dX5_send_45 rfl ?_
      refine va_get (ci := 5) (v := .int xx_timesSent) (C := RX5) (T := TX5) (N := 10) hx hb hts hin_X5 hown hK hP 0 rfl rfl 6 (by decide) fl_165 (fun _ h9 => h9) rfl dX5_send_46 ?_
      refine lv_iconst (v := (1 : Int32)) hx hb dX5_send_49 (by decide) ?_
      refine lv_iadd hx hb dX5_send_50 ?_
      refine va_put (ci := 5) (v := .int (xx_timesSent + (1 : Int32))) (ty := .int) (C := RX5) (T := TX5) (N := 10) hx hb hts hin_X5 tyX5 tyX5_ok nmX5 hown hK hP hD hS 0 rfl rfl 6 (by decide) fl_165 (fun _ h9 => h9) rfl (by decide +kernel) rfl rfl (Nat.le_of_ble_eq_true rfl) dX5_send_51 (fun H locs hP hD hS => ?_)
      have hP : va_P D vwCl (wdX cI cJ ad xx_netsRead (xx_timesSent + (1 : Int32)) xx_passagesSent xx_astraySent xx_loopsSent pg_codes pg_length gr_nodes gr_links gr_start gr_end gr_linkBetween gr_wayLength gr_wayNext gr_wayLinks mk_width mk_drawn mk_seed mk_nextSeed mk_bits bn_links fl_foldBits_16 fl_passages_17 fl_astray_18 fl_loops_19 fl_steps_20 fl_reached_21 fl_matchingAside_22) H := hP
      have hD : va_D A (wdX cI cJ ad xx_netsRead (xx_timesSent + (1 : Int32)) xx_passagesSent xx_astraySent xx_loopsSent pg_codes pg_length gr_nodes gr_links gr_start gr_end gr_linkBetween gr_wayLength gr_wayNext gr_wayLinks mk_width mk_drawn mk_seed mk_nextSeed mk_bits bn_links fl_foldBits_16 fl_passages_17 fl_astray_18 fl_loops_19 fl_steps_20 fl_reached_21 fl_matchingAside_22) := hD
      refine lv_aload_n hx hb dX5_send_54 rfl (lv_at hl 0 rfl) ?_
      refine lv_dup hx hb dX5_send_55 rfl ?_
      refine va_get (ci := 5) (v := .int xx_passagesSent) (C := RX5) (T := TX5) (N := 10) hx hb hts hin_X5 hown hK hP 0 rfl rfl 7 (by decide) fl_168 (fun _ h9 => h9) rfl dX5_send_56 ?_
      refine lv_aload_n hx hb dX5_send_59 rfl (lv_at hl 0 rfl) ?_
      refine va_get (ci := 5) (v := .ref (ad 14)) (C := RX5) (T := TX5) (N := 10) hx hb hts hin_X5 hown hK hP 0 rfl rfl 4 (by decide) fl_40 (fun _ h9 => h9) rfl dX5_send_60 ?_
      refine va_get (ci := 1) (v := .int fl_passages_17) (C := RX1) (T := TX1) (N := 7) hx hb hts hin_X1 hown hK hP 14 rfl rfl 1 (by decide) fl_171 (fun _ h9 => h9) rfl dX5_send_63 ?_
      refine lv_iadd hx hb dX5_send_66 ?_
      refine va_put (ci := 5) (v := .int (xx_passagesSent + fl_passages_17)) (ty := .int) (C := RX5) (T := TX5) (N := 10) hx hb hts hin_X5 tyX5 tyX5_ok nmX5 hown hK hP hD hS 0 rfl rfl 7 (by decide) fl_168 (fun _ h9 => h9) rfl (by decide +kernel) rfl rfl (Nat.le_of_ble_eq_true rfl) dX5_send_67 (fun H locs hP hD hS => ?_)
      have hP : va_P D vwCl (wdX cI cJ ad xx_netsRead (xx_timesSent + (1 : Int32)) (xx_passagesSent + fl_passages_17) xx_astraySent xx_loopsSent pg_codes pg_length gr_nodes gr_links gr_start gr_end gr_linkBetween gr_wayLength gr_wayNext gr_wayLinks mk_width mk_drawn mk_seed mk_nextSeed mk_bits bn_links fl_foldBits_16 fl_passages_17 fl_astray_18 fl_loops_19 fl_steps_20 fl_reached_21 fl_matchingAside_22) H := hP
      have hD : va_D A (wdX cI cJ ad xx_netsRead (xx_timesSent + (1 : Int32)) (xx_passagesSent + fl_passages_17) xx_astraySent xx_loopsSent pg_codes pg_length gr_nodes gr_links gr_start gr_end gr_linkBetween gr_wayLength gr_wayNext gr_wayLinks mk_width mk_drawn mk_seed mk_nextSeed mk_bits bn_links fl_foldBits_16 fl_passages_17 fl_astray_18 fl_loops_19 fl_steps_20 fl_reached_21 fl_matchingAside_22) := hD
      refine lv_aload_n hx hb dX5_send_70 rfl (lv_at hl 0 rfl) ?_
      refine lv_dup hx hb dX5_send_71 rfl ?_
      refine va_get (ci := 5) (v := .int xx_astraySent) (C := RX5) (T := TX5) (N := 10) hx hb hts hin_X5 hown hK hP 0 rfl rfl 8 (by decide) fl_174 (fun _ h9 => h9) rfl dX5_send_72 ?_
      refine lv_aload_n hx hb dX5_send_75 rfl (lv_at hl 0 rfl) ?_
      refine va_get (ci := 5) (v := .ref (ad 14)) (C := RX5) (T := TX5) (N := 10) hx hb hts hin_X5 hown hK hP 0 rfl rfl 4 (by decide) fl_40 (fun _ h9 => h9) rfl dX5_send_76 ?_
      refine va_get (ci := 1) (v := .int fl_astray_18) (C := RX1) (T := TX1) (N := 7) hx hb hts hin_X1 hown hK hP 14 rfl rfl 2 (by decide) fl_177 (fun _ h9 => h9) rfl dX5_send_79 ?_
      refine lv_iadd hx hb dX5_send_82 ?_
      refine va_put (ci := 5) (v := .int (xx_astraySent + fl_astray_18)) (ty := .int) (C := RX5) (T := TX5) (N := 10) hx hb hts hin_X5 tyX5 tyX5_ok nmX5 hown hK hP hD hS 0 rfl rfl 8 (by decide) fl_174 (fun _ h9 => h9) rfl (by decide +kernel) rfl rfl (Nat.le_of_ble_eq_true rfl) dX5_send_83 (fun H locs hP hD hS => ?_)
      have hP : va_P D vwCl (wdX cI cJ ad xx_netsRead (xx_timesSent + (1 : Int32)) (xx_passagesSent + fl_passages_17) (xx_astraySent + fl_astray_18) xx_loopsSent pg_codes pg_length gr_nodes gr_links gr_start gr_end gr_linkBetween gr_wayLength gr_wayNext gr_wayLinks mk_width mk_drawn mk_seed mk_nextSeed mk_bits bn_links fl_foldBits_16 fl_passages_17 fl_astray_18 fl_loops_19 fl_steps_20 fl_reached_21 fl_matchingAside_22) H := hP
      have hD : va_D A (wdX cI cJ ad xx_netsRead (xx_timesSent + (1 : Int32)) (xx_passagesSent + fl_passages_17) (xx_astraySent + fl_astray_18) xx_loopsSent pg_codes pg_length gr_nodes gr_links gr_start gr_end gr_linkBetween gr_wayLength gr_wayNext gr_wayLinks mk_width mk_drawn mk_seed mk_nextSeed mk_bits bn_links fl_foldBits_16 fl_passages_17 fl_astray_18 fl_loops_19 fl_steps_20 fl_reached_21 fl_matchingAside_22) := hD
      refine lv_aload_n hx hb dX5_send_86 rfl (lv_at hl 0 rfl) ?_
      refine lv_dup hx hb dX5_send_87 rfl ?_
      refine va_get (ci := 5) (v := .int xx_loopsSent) (C := RX5) (T := TX5) (N := 10) hx hb hts hin_X5 hown hK hP 0 rfl rfl 9 (by decide) fl_180 (fun _ h9 => h9) rfl dX5_send_88 ?_
      refine lv_aload_n hx hb dX5_send_91 rfl (lv_at hl 0 rfl) ?_
      refine va_get (ci := 5) (v := .ref (ad 14)) (C := RX5) (T := TX5) (N := 10) hx hb hts hin_X5 hown hK hP 0 rfl rfl 4 (by decide) fl_40 (fun _ h9 => h9) rfl dX5_send_92 ?_
      refine va_get (ci := 1) (v := .int fl_loops_19) (C := RX1) (T := TX1) (N := 7) hx hb hts hin_X1 hown hK hP 14 rfl rfl 3 (by decide) fl_183 (fun _ h9 => h9) rfl dX5_send_95 ?_
      refine lv_iadd hx hb dX5_send_98 ?_
      refine va_put (ci := 5) (v := .int (xx_loopsSent + fl_loops_19)) (ty := .int) (C := RX5) (T := TX5) (N := 10) hx hb hts hin_X5 tyX5 tyX5_ok nmX5 hown hK hP hD hS 0 rfl rfl 9 (by decide) fl_180 (fun _ h9 => h9) rfl (by decide +kernel) rfl rfl (Nat.le_of_ble_eq_true rfl) dX5_send_99 (fun H locs hP hD hS => ?_)
      have hP : va_P D vwCl (wdX cI cJ ad xx_netsRead (xx_timesSent + (1 : Int32)) (xx_passagesSent + fl_passages_17) (xx_astraySent + fl_astray_18) (xx_loopsSent + fl_loops_19) pg_codes pg_length gr_nodes gr_links gr_start gr_end gr_linkBetween gr_wayLength gr_wayNext gr_wayLinks mk_width mk_drawn mk_seed mk_nextSeed mk_bits bn_links fl_foldBits_16 fl_passages_17 fl_astray_18 fl_loops_19 fl_steps_20 fl_reached_21 fl_matchingAside_22) H := hP
      have hD : va_D A (wdX cI cJ ad xx_netsRead (xx_timesSent + (1 : Int32)) (xx_passagesSent + fl_passages_17) (xx_astraySent + fl_astray_18) (xx_loopsSent + fl_loops_19) pg_codes pg_length gr_nodes gr_links gr_start gr_end gr_linkBetween gr_wayLength gr_wayNext gr_wayLinks mk_width mk_drawn mk_seed mk_nextSeed mk_bits bn_links fl_foldBits_16 fl_passages_17 fl_astray_18 fl_loops_19 fl_steps_20 fl_reached_21 fl_matchingAside_22) := hD
      refine lv_aload_n hx hb dX5_send_102 rfl (lv_at hl 0 rfl) ?_
      refine va_get (ci := 5) (v := .ref (ad 14)) (C := RX5) (T := TX5) (N := 10) hx hb hts hin_X5 hown hK hP 0 rfl rfl 4 (by decide) fl_40 (fun _ h9 => h9) rfl dX5_send_103 ?_
      refine va_get (ci := 1) (v := .int fl_astray_18) (C := RX1) (T := TX1) (N := 7) hx hb hts hin_X1 hown hK hP 14 rfl rfl 2 (by decide) fl_177 (fun _ h9 => h9) rfl dX5_send_106 ?_
      cases hf
      exact hret _ _ _ _ dX5_send_109 hP hD hS
    · have hf := oo_t hf c4
      refine lv_sipush (v := (-1002 : Int32)) hx hb dX5_send_26 (by decide) ?_
      cases hf
      exact hret _ _ _ _ dX5_send_29 hP hD hS
  · have hf := oo_t hf c2
    refine lv_sipush (v := (-1001 : Int32)) hx hb dX5_send_11 (by decide) ?_
    cases hf
    exact hret _ _ _ _ dX5_send_14 hP hD hS
def f_X5_count (xx_netsRead : Int32) (xx_timesSent : Int32) (xx_passagesSent : Int32) (xx_astraySent : Int32) (xx_loopsSent : Int32) (pg_length : Int32) (gr_nodes : Int32) (gr_links : Int32) (mk_width : Int32) (mk_drawn : Int32) (mk_seed : Int32) (bn_links : Nat → Int32) (x1 : Int32) : Option (Int32) :=
  if x1 = (0 : Int32) then
    some (f_X2_nodeCount gr_nodes)
  else
    if x1 = (1 : Int32) then
      some (f_X2_linkCount gr_links)
    else
      if x1 = (2 : Int32) then
        some (f_X4_size pg_length)
      else
        if x1 = (3 : Int32) then
          some (f_X3_setting mk_width mk_drawn mk_seed (x1 - (3 : Int32)))
        else
          if x1 = (4 : Int32) then
            some (f_X3_setting mk_width mk_drawn mk_seed (x1 - (3 : Int32)))
          else
            if x1 = (5 : Int32) then
              some (f_X3_setting mk_width mk_drawn mk_seed (x1 - (3 : Int32)))
            else
              if x1 = (6 : Int32) then
                Option.bind (f_X0_howMany bn_links) fun r16 =>
                some r16
              else
                if x1 = (7 : Int32) then
                  some xx_netsRead
                else
                  if x1 = (8 : Int32) then
                    some xx_timesSent
                  else
                    if x1 = (9 : Int32) then
                      some xx_passagesSent
                    else
                      if x1 = (10 : Int32) then
                        some xx_astraySent
                      else
                        if x1 = (11 : Int32) then
                          some xx_loopsSent
                        else
                          some (-1002 : Int32)
abbrev rm_X5_count : Room := { frames := 4, cells := 0, slots := 0, locals := 84 }
set_option maxHeartbeats 4000000 in
set_option maxRecDepth 100000 in
theorem c_X5_count (l : Launch) (D : va_G) (cI cJ : ClassId) (ad : Nat → Nat) (sz : Nat) {xx_netsRead xx_timesSent xx_passagesSent xx_astraySent xx_loopsSent : Int32} {pg_codes : Nat → Int32} {pg_length gr_nodes gr_links : Int32} {gr_start gr_end gr_linkBetween gr_wayLength gr_wayNext gr_wayLinks : Nat → Int32} {mk_width mk_drawn mk_seed : Int32} {mk_nextSeed : Int64} {mk_bits : Nat → Int64} {bn_links : Nat → Int32} {fl_foldBits fl_passages fl_astray fl_loops fl_steps fl_reached fl_matchingAside : Int32} (x1 : Int32) {o_res : Int32} (hf : f_X5_count xx_netsRead xx_timesSent xx_passagesSent xx_astraySent xx_loopsSent pg_length gr_nodes gr_links mk_width mk_drawn mk_seed bn_links x1 = some o_res) : CtI l yX5_count wsX5_count rm_X5_count D cI cJ [.ref (ad 0), .int x1] (wdX cI cJ ad xx_netsRead xx_timesSent xx_passagesSent xx_astraySent xx_loopsSent pg_codes pg_length gr_nodes gr_links gr_start gr_end gr_linkBetween gr_wayLength gr_wayNext gr_wayLinks mk_width mk_drawn mk_seed mk_nextSeed mk_bits bn_links fl_foldBits fl_passages fl_astray fl_loops fl_steps fl_reached fl_matchingAside) sz o_res (wdX cI cJ ad xx_netsRead xx_timesSent xx_passagesSent xx_astraySent xx_loopsSent pg_codes pg_length gr_nodes gr_links gr_start gr_end gr_linkBetween gr_wayLength gr_wayNext gr_wayLinks mk_width mk_drawn mk_seed mk_nextSeed mk_bits bn_links fl_foldBits fl_passages fl_astray fl_loops fl_steps fl_reached fl_matchingAside) := by
  refine ctI_of (cc := cX5_count) (maxL := 2) (by decide) rfl (Nat.le_of_ble_eq_true rfl) ?_
  intro p e s m below meth c Q A hx hb hml hown hts hK hN hA hret ls hl hP hD hS
  obtain ⟨args, hargs⟩ : ∃ a : Array Value, a = [.ref (ad 0), .int x1].toArray := ⟨_, rfl⟩
  rw [← hargs] at hts hret ⊢
  have hown : s.vm.findClass RX5 = some m.cls := hown
  have hl : lv_has ls 2 [(0, .ref (ad 0)), (1, .int x1)] := hl
  have hin_X5 : ∀ w ∈ wsX50, w ∈ wsX5_count := fun _ h => List.mem_cons_of_mem _ (List.mem_append_left _ (List.mem_append_left _ (List.mem_append_left _ (List.mem_append_left _ (List.mem_append_right _ h)))))
  have fl_10 : (Cond.fieldLink RX5 10 "FoldedWays" "page" "LFoldedWays$Page;").before args s = true := hat hts 2 rfl
  have fl_19 : (Cond.fieldLink RX5 19 "FoldedWays" "graph" "LFoldedWays$Graph;").before args s = true := hat hts 1 rfl
  have fl_26 : (Cond.fieldLink RX5 26 "FoldedWays" "marks" "LFoldedWays$Marks;").before args s = true := hat hts 3 rfl
  have fl_33 : (Cond.fieldLink RX5 33 "FoldedWays" "bundles" "LFoldedWays$Bundles;").before args s = true := hat hts 4 rfl
  have fl_76 : (Cond.fieldLink RX5 76 "FoldedWays" "netsRead" "I").before args s = true := hat hts 5 rfl
  have fl_165 : (Cond.fieldLink RX5 165 "FoldedWays" "timesSent" "I").before args s = true := hat hts 6 rfl
  have fl_168 : (Cond.fieldLink RX5 168 "FoldedWays" "passagesSent" "I").before args s = true := hat hts 7 rfl
  have fl_174 : (Cond.fieldLink RX5 174 "FoldedWays" "astraySent" "I").before args s = true := hat hts 8 rfl
  have fl_180 : (Cond.fieldLink RX5 180 "FoldedWays" "loopsSent" "I").before args s = true := hat hts 9 rfl
  unfold f_X5_count at hf
  refine lv_iload_n hx hb dX5_count_0 rfl (lv_at hl 1 rfl) ?_
  by_cases c2 : x1 = (0 : Int32)
  · have hf := oo_t hf c2
    refine lv_tableIn (tgt := 64) hx hb dX5_count_1 (by rw [c2]; decide) (by rw [c2]; decide) (by rw [c2]; rfl) (by decide) ?_
    refine lv_aload_n hx hb dX5_count_64 rfl (lv_at hl 0 rfl) ?_
    refine va_get (ci := 5) (v := .ref (ad 3)) (C := RX5) (T := TX5) (N := 10) hx hb hts hin_X5 hown hK hP 0 rfl rfl 1 (by decide) fl_19 (fun _ h9 => h9) rfl dX5_count_65 ?_
    have F : Fr D A _ (wdG cI cJ ad gr_nodes gr_links gr_start gr_end gr_linkBetween gr_wayLength gr_wayNext gr_wayLinks) (wdG cI cJ ad gr_nodes gr_links gr_start gr_end gr_linkBetween gr_wayLength gr_wayNext gr_wayLinks) (wdX cI cJ ad xx_netsRead xx_timesSent xx_passagesSent xx_astraySent xx_loopsSent pg_codes pg_length gr_nodes gr_links gr_start gr_end gr_linkBetween gr_wayLength gr_wayNext gr_wayLinks mk_width mk_drawn mk_seed mk_nextSeed mk_bits bn_links fl_foldBits fl_passages fl_astray fl_loops fl_steps fl_reached fl_matchingAside) := fr_X_G hP hD hS hA
    refine kI F hS (rV (q := (RX2, TX2, 8)) (As := []) (rest := []) ⟨hx, hb, hml, hown, hts⟩ hK hN F (c_X2_nodeCount l D cI cJ ad _ (gr_nodes := gr_nodes) (gr_links := gr_links) (gr_start := gr_start) (gr_end := gr_end) (gr_linkBetween := gr_linkBetween) (gr_wayLength := gr_wayLength) (gr_wayNext := gr_wayNext) (gr_wayLinks := gr_wayLinks)  (o_res := (f_X2_nodeCount gr_nodes)) rfl) (cwV 0 hts gX5_count_X2_nodeCount rfl rfl rfl (by decide +kernel) ⟨Nat.le_of_ble_eq_true rfl, Nat.le_of_ble_eq_true rfl⟩) (ci := 2) rfl rfl rfl hl.1 rfl (Nat.le_of_ble_eq_true rfl) dX5_count_68 ⟨Nat.zero_le _, Nat.zero_le _⟩) (fun H locs hP hD hS => ?_)
    cases hf
    exact hret _ _ _ _ dX5_count_71 hP hD hS
  · have hf := oo_f hf c2
    by_cases c4 : x1 = (1 : Int32)
    · have hf := oo_t hf c4
      refine lv_tableIn (tgt := 72) hx hb dX5_count_1 (by rw [c4]; decide) (by rw [c4]; decide) (by rw [c4]; rfl) (by decide) ?_
      refine lv_aload_n hx hb dX5_count_72 rfl (lv_at hl 0 rfl) ?_
      refine va_get (ci := 5) (v := .ref (ad 3)) (C := RX5) (T := TX5) (N := 10) hx hb hts hin_X5 hown hK hP 0 rfl rfl 1 (by decide) fl_19 (fun _ h9 => h9) rfl dX5_count_73 ?_
      have F : Fr D A _ (wdG cI cJ ad gr_nodes gr_links gr_start gr_end gr_linkBetween gr_wayLength gr_wayNext gr_wayLinks) (wdG cI cJ ad gr_nodes gr_links gr_start gr_end gr_linkBetween gr_wayLength gr_wayNext gr_wayLinks) (wdX cI cJ ad xx_netsRead xx_timesSent xx_passagesSent xx_astraySent xx_loopsSent pg_codes pg_length gr_nodes gr_links gr_start gr_end gr_linkBetween gr_wayLength gr_wayNext gr_wayLinks mk_width mk_drawn mk_seed mk_nextSeed mk_bits bn_links fl_foldBits fl_passages fl_astray fl_loops fl_steps fl_reached fl_matchingAside) := fr_X_G hP hD hS hA
      refine kI F hS (rV (q := (RX2, TX2, 8)) (As := []) (rest := []) ⟨hx, hb, hml, hown, hts⟩ hK hN F (c_X2_linkCount l D cI cJ ad _ (gr_nodes := gr_nodes) (gr_links := gr_links) (gr_start := gr_start) (gr_end := gr_end) (gr_linkBetween := gr_linkBetween) (gr_wayLength := gr_wayLength) (gr_wayNext := gr_wayNext) (gr_wayLinks := gr_wayLinks)  (o_res := (f_X2_linkCount gr_links)) rfl) (cwV 0 hts gX5_count_X2_linkCount rfl rfl rfl (by decide +kernel) ⟨Nat.le_of_ble_eq_true rfl, Nat.le_of_ble_eq_true rfl⟩) (ci := 2) rfl rfl rfl hl.1 rfl (Nat.le_of_ble_eq_true rfl) dX5_count_76 ⟨Nat.zero_le _, Nat.zero_le _⟩) (fun H locs hP hD hS => ?_)
      cases hf
      exact hret _ _ _ _ dX5_count_79 hP hD hS
    · have hf := oo_f hf c4
      by_cases c6 : x1 = (2 : Int32)
      · have hf := oo_t hf c6
        refine lv_tableIn (tgt := 80) hx hb dX5_count_1 (by rw [c6]; decide) (by rw [c6]; decide) (by rw [c6]; rfl) (by decide) ?_
        refine lv_aload_n hx hb dX5_count_80 rfl (lv_at hl 0 rfl) ?_
        refine va_get (ci := 5) (v := .ref (ad 1)) (C := RX5) (T := TX5) (N := 10) hx hb hts hin_X5 hown hK hP 0 rfl rfl 0 (by decide) fl_10 (fun _ h9 => h9) rfl dX5_count_81 ?_
        have F : Fr D A _ (wdPg cI cJ ad pg_codes pg_length) (wdPg cI cJ ad pg_codes pg_length) (wdX cI cJ ad xx_netsRead xx_timesSent xx_passagesSent xx_astraySent xx_loopsSent pg_codes pg_length gr_nodes gr_links gr_start gr_end gr_linkBetween gr_wayLength gr_wayNext gr_wayLinks mk_width mk_drawn mk_seed mk_nextSeed mk_bits bn_links fl_foldBits fl_passages fl_astray fl_loops fl_steps fl_reached fl_matchingAside) := fr_X_Pg hP hD hS hA
        refine kI F hS (rV (q := (RX4, TX4, 2)) (As := []) (rest := []) ⟨hx, hb, hml, hown, hts⟩ hK hN F (c_X4_size l D cI cJ ad _ (pg_codes := pg_codes) (pg_length := pg_length)  (o_res := (f_X4_size pg_length)) rfl) (cwV 0 hts gX5_count_X4_size rfl rfl rfl (by decide +kernel) ⟨Nat.le_of_ble_eq_true rfl, Nat.le_of_ble_eq_true rfl⟩) (ci := 4) rfl rfl rfl hl.1 rfl (Nat.le_of_ble_eq_true rfl) dX5_count_84 ⟨Nat.zero_le _, Nat.zero_le _⟩) (fun H locs hP hD hS => ?_)
        cases hf
        exact hret _ _ _ _ dX5_count_87 hP hD hS
      · have hf := oo_f hf c6
        by_cases c8 : x1 = (3 : Int32)
        · have hf := oo_t hf c8
          refine lv_tableIn (tgt := 88) hx hb dX5_count_1 (by rw [c8]; decide) (by rw [c8]; decide) (by rw [c8]; rfl) (by decide) ?_
          refine lv_aload_n hx hb dX5_count_88 rfl (lv_at hl 0 rfl) ?_
          refine va_get (ci := 5) (v := .ref (ad 10)) (C := RX5) (T := TX5) (N := 10) hx hb hts hin_X5 hown hK hP 0 rfl rfl 2 (by decide) fl_26 (fun _ h9 => h9) rfl dX5_count_89 ?_
          refine lv_iload_n hx hb dX5_count_92 rfl (lv_at hl 1 rfl) ?_
          refine lv_iconst (v := (3 : Int32)) hx hb dX5_count_93 (by decide) ?_
          refine lv_isub hx hb dX5_count_94 ?_
          have F : Fr D A _ (wdK cI cJ ad mk_width mk_drawn mk_seed mk_nextSeed mk_bits) (wdK cI cJ ad mk_width mk_drawn mk_seed mk_nextSeed mk_bits) (wdX cI cJ ad xx_netsRead xx_timesSent xx_passagesSent xx_astraySent xx_loopsSent pg_codes pg_length gr_nodes gr_links gr_start gr_end gr_linkBetween gr_wayLength gr_wayNext gr_wayLinks mk_width mk_drawn mk_seed mk_nextSeed mk_bits bn_links fl_foldBits fl_passages fl_astray fl_loops fl_steps fl_reached fl_matchingAside) := fr_X_K hP hD hS hA
          refine kI F hS (rV (q := (RX3, TX3, 5)) (As := [.int (x1 - (3 : Int32))]) (rest := []) ⟨hx, hb, hml, hown, hts⟩ hK hN F (c_X3_setting l D cI cJ ad _ (mk_width := mk_width) (mk_drawn := mk_drawn) (mk_seed := mk_seed) (mk_nextSeed := mk_nextSeed) (mk_bits := mk_bits) (x1 - (3 : Int32)) (o_res := (f_X3_setting mk_width mk_drawn mk_seed (x1 - (3 : Int32)))) rfl) (cwV 1 hts gX5_count_X3_setting rfl rfl rfl (by decide +kernel) ⟨Nat.le_of_ble_eq_true rfl, Nat.le_of_ble_eq_true rfl⟩) (ci := 3) rfl rfl rfl hl.1 rfl (Nat.le_of_ble_eq_true rfl) dX5_count_95 ⟨Nat.zero_le _, Nat.zero_le _⟩) (fun H locs hP hD hS => ?_)
          cases hf
          exact hret _ _ _ _ dX5_count_98 hP hD hS
        · have hf := oo_f hf c8
          by_cases c10 : x1 = (4 : Int32)
          · have hf := oo_t hf c10
            refine lv_tableIn (tgt := 88) hx hb dX5_count_1 (by rw [c10]; decide) (by rw [c10]; decide) (by rw [c10]; rfl) (by decide) ?_
            refine lv_aload_n hx hb dX5_count_88 rfl (lv_at hl 0 rfl) ?_
            refine va_get (ci := 5) (v := .ref (ad 10)) (C := RX5) (T := TX5) (N := 10) hx hb hts hin_X5 hown hK hP 0 rfl rfl 2 (by decide) fl_26 (fun _ h9 => h9) rfl dX5_count_89 ?_
            refine lv_iload_n hx hb dX5_count_92 rfl (lv_at hl 1 rfl) ?_
            refine lv_iconst (v := (3 : Int32)) hx hb dX5_count_93 (by decide) ?_
            refine lv_isub hx hb dX5_count_94 ?_
            have F : Fr D A _ (wdK cI cJ ad mk_width mk_drawn mk_seed mk_nextSeed mk_bits) (wdK cI cJ ad mk_width mk_drawn mk_seed mk_nextSeed mk_bits) (wdX cI cJ ad xx_netsRead xx_timesSent xx_passagesSent xx_astraySent xx_loopsSent pg_codes pg_length gr_nodes gr_links gr_start gr_end gr_linkBetween gr_wayLength gr_wayNext gr_wayLinks mk_width mk_drawn mk_seed mk_nextSeed mk_bits bn_links fl_foldBits fl_passages fl_astray fl_loops fl_steps fl_reached fl_matchingAside) := fr_X_K hP hD hS hA
            refine kI F hS (rV (q := (RX3, TX3, 5)) (As := [.int (x1 - (3 : Int32))]) (rest := []) ⟨hx, hb, hml, hown, hts⟩ hK hN F (c_X3_setting l D cI cJ ad _ (mk_width := mk_width) (mk_drawn := mk_drawn) (mk_seed := mk_seed) (mk_nextSeed := mk_nextSeed) (mk_bits := mk_bits) (x1 - (3 : Int32)) (o_res := (f_X3_setting mk_width mk_drawn mk_seed (x1 - (3 : Int32)))) rfl) (cwV 1 hts gX5_count_X3_setting rfl rfl rfl (by decide +kernel) ⟨Nat.le_of_ble_eq_true rfl, Nat.le_of_ble_eq_true rfl⟩) (ci := 3) rfl rfl rfl hl.1 rfl (Nat.le_of_ble_eq_true rfl) dX5_count_95 ⟨Nat.zero_le _, Nat.zero_le _⟩) (fun H locs hP hD hS => ?_)
            cases hf
            exact hret _ _ _ _ dX5_count_98 hP hD hS
          · have hf := oo_f hf c10
            by_cases c12 : x1 = (5 : Int32)
            · have hf := oo_t hf c12
              refine lv_tableIn (tgt := 88) hx hb dX5_count_1 (by rw [c12]; decide) (by rw [c12]; decide) (by rw [c12]; rfl) (by decide) ?_
              refine lv_aload_n hx hb dX5_count_88 rfl (lv_at hl 0 rfl) ?_
              refine va_get (ci := 5) (v := .ref (ad 10)) (C := RX5) (T := TX5) (N := 10) hx hb hts hin_X5 hown hK hP 0 rfl rfl 2 (by decide) fl_26 (fun _ h9 => h9) rfl dX5_count_89 ?_
              refine lv_iload_n hx hb dX5_count_92 rfl (lv_at hl 1 rfl) ?_
              refine lv_iconst (v := (3 : Int32)) hx hb dX5_count_93 (by decide) ?_
              refine lv_isub hx hb dX5_count_94 ?_
              have F : Fr D A _ (wdK cI cJ ad mk_width mk_drawn mk_seed mk_nextSeed mk_bits) (wdK cI cJ ad mk_width mk_drawn mk_seed mk_nextSeed mk_bits) (wdX cI cJ ad xx_netsRead xx_timesSent xx_passagesSent xx_astraySent xx_loopsSent pg_codes pg_length gr_nodes gr_links gr_start gr_end gr_linkBetween gr_wayLength gr_wayNext gr_wayLinks mk_width mk_drawn mk_seed mk_nextSeed mk_bits bn_links fl_foldBits fl_passages fl_astray fl_loops fl_steps fl_reached fl_matchingAside) := fr_X_K hP hD hS hA
              refine kI F hS (rV (q := (RX3, TX3, 5)) (As := [.int (x1 - (3 : Int32))]) (rest := []) ⟨hx, hb, hml, hown, hts⟩ hK hN F (c_X3_setting l D cI cJ ad _ (mk_width := mk_width) (mk_drawn := mk_drawn) (mk_seed := mk_seed) (mk_nextSeed := mk_nextSeed) (mk_bits := mk_bits) (x1 - (3 : Int32)) (o_res := (f_X3_setting mk_width mk_drawn mk_seed (x1 - (3 : Int32)))) rfl) (cwV 1 hts gX5_count_X3_setting rfl rfl rfl (by decide +kernel) ⟨Nat.le_of_ble_eq_true rfl, Nat.le_of_ble_eq_true rfl⟩) (ci := 3) rfl rfl rfl hl.1 rfl (Nat.le_of_ble_eq_true rfl) dX5_count_95 ⟨Nat.zero_le _, Nat.zero_le _⟩) (fun H locs hP hD hS => ?_)
              cases hf
              exact hret _ _ _ _ dX5_count_98 hP hD hS
            · have hf := oo_f hf c12
              by_cases c14 : x1 = (6 : Int32)
              · have hf := oo_t hf c14
                refine lv_tableIn (tgt := 99) hx hb dX5_count_1 (by rw [c14]; decide) (by rw [c14]; decide) (by rw [c14]; rfl) (by decide) ?_
                refine lv_aload_n hx hb dX5_count_99 rfl (lv_at hl 0 rfl) ?_
                refine va_get (ci := 5) (v := .ref (ad 12)) (C := RX5) (T := TX5) (N := 10) hx hb hts hin_X5 hown hK hP 0 rfl rfl 3 (by decide) fl_33 (fun _ h9 => h9) rfl dX5_count_100 ?_
                obtain ⟨r16, h15, hf⟩ := oo_b hf
                try dsimp only at hf
                have F : Fr D A _ (wdB cI cJ ad bn_links) (wdB cI cJ ad bn_links) (wdX cI cJ ad xx_netsRead xx_timesSent xx_passagesSent xx_astraySent xx_loopsSent pg_codes pg_length gr_nodes gr_links gr_start gr_end gr_linkBetween gr_wayLength gr_wayNext gr_wayLinks mk_width mk_drawn mk_seed mk_nextSeed mk_bits bn_links fl_foldBits fl_passages fl_astray fl_loops fl_steps fl_reached fl_matchingAside) := fr_X_B hP hD hS hA
                refine kI F hS (rV (q := (RX0, TX0, 1)) (As := []) (rest := []) ⟨hx, hb, hml, hown, hts⟩ hK hN F (c_X0_howMany l D cI cJ ad _ (bn_links := bn_links)  (o_res := r16) h15) (cwV 0 hts gX5_count_X0_howMany rfl rfl rfl (by decide +kernel) ⟨Nat.le_of_ble_eq_true rfl, Nat.le_of_ble_eq_true rfl⟩) (ci := 0) rfl rfl rfl hl.1 rfl (Nat.le_of_ble_eq_true rfl) dX5_count_103 ⟨Nat.zero_le _, Nat.zero_le _⟩) (fun H locs hP hD hS => ?_)
                cases hf
                exact hret _ _ _ _ dX5_count_106 hP hD hS
              · have hf := oo_f hf c14
                by_cases c18 : x1 = (7 : Int32)
                · have hf := oo_t hf c18
                  refine lv_tableIn (tgt := 107) hx hb dX5_count_1 (by rw [c18]; decide) (by rw [c18]; decide) (by rw [c18]; rfl) (by decide) ?_
                  refine lv_aload_n hx hb dX5_count_107 rfl (lv_at hl 0 rfl) ?_
                  refine va_get (ci := 5) (v := .int xx_netsRead) (C := RX5) (T := TX5) (N := 10) hx hb hts hin_X5 hown hK hP 0 rfl rfl 5 (by decide) fl_76 (fun _ h9 => h9) rfl dX5_count_108 ?_
                  cases hf
                  exact hret _ _ _ _ dX5_count_111 hP hD hS
                · have hf := oo_f hf c18
                  by_cases c19 : x1 = (8 : Int32)
                  · have hf := oo_t hf c19
                    refine lv_tableIn (tgt := 112) hx hb dX5_count_1 (by rw [c19]; decide) (by rw [c19]; decide) (by rw [c19]; rfl) (by decide) ?_
                    refine lv_aload_n hx hb dX5_count_112 rfl (lv_at hl 0 rfl) ?_
                    refine va_get (ci := 5) (v := .int xx_timesSent) (C := RX5) (T := TX5) (N := 10) hx hb hts hin_X5 hown hK hP 0 rfl rfl 6 (by decide) fl_165 (fun _ h9 => h9) rfl dX5_count_113 ?_
                    cases hf
                    exact hret _ _ _ _ dX5_count_116 hP hD hS
                  · have hf := oo_f hf c19
                    by_cases c20 : x1 = (9 : Int32)
                    · have hf := oo_t hf c20
                      refine lv_tableIn (tgt := 117) hx hb dX5_count_1 (by rw [c20]; decide) (by rw [c20]; decide) (by rw [c20]; rfl) (by decide) ?_
                      refine lv_aload_n hx hb dX5_count_117 rfl (lv_at hl 0 rfl) ?_
                      refine va_get (ci := 5) (v := .int xx_passagesSent) (C := RX5) (T := TX5) (N := 10) hx hb hts hin_X5 hown hK hP 0 rfl rfl 7 (by decide) fl_168 (fun _ h9 => h9) rfl dX5_count_118 ?_
                      cases hf
                      exact hret _ _ _ _ dX5_count_121 hP hD hS
                    · have hf := oo_f hf c20
                      by_cases c21 : x1 = (10 : Int32)
                      · have hf := oo_t hf c21
                        refine lv_tableIn (tgt := 122) hx hb dX5_count_1 (by rw [c21]; decide) (by rw [c21]; decide) (by rw [c21]; rfl) (by decide) ?_
                        refine lv_aload_n hx hb dX5_count_122 rfl (lv_at hl 0 rfl) ?_
                        refine va_get (ci := 5) (v := .int xx_astraySent) (C := RX5) (T := TX5) (N := 10) hx hb hts hin_X5 hown hK hP 0 rfl rfl 8 (by decide) fl_174 (fun _ h9 => h9) rfl dX5_count_123 ?_
                        cases hf
                        exact hret _ _ _ _ dX5_count_126 hP hD hS
                      · have hf := oo_f hf c21
                        by_cases c22 : x1 = (11 : Int32)
                        · have hf := oo_t hf c22
                          refine lv_tableIn (tgt := 127) hx hb dX5_count_1 (by rw [c22]; decide) (by rw [c22]; decide) (by rw [c22]; rfl) (by decide) ?_
                          refine lv_aload_n hx hb dX5_count_127 rfl (lv_at hl 0 rfl) ?_
                          refine va_get (ci := 5) (v := .int xx_loopsSent) (C := RX5) (T := TX5) (N := 10) hx hb hts hin_X5 hown hK hP 0 rfl rfl 9 (by decide) fl_180 (fun _ h9 => h9) rfl dX5_count_128 ?_
                          cases hf
                          exact hret _ _ _ _ dX5_count_131 hP hD hS
                        · have hf := oo_f hf c22
                          refine lv_tableOut (tgt := 132) hx hb dX5_count_1 (tblo_0_12 c2 c4 c6 c8 c10 c12 c14 c18 c19 c20 c21 c22) (by decide) ?_
                          refine lv_sipush (v := (-1002 : Int32)) hx hb dX5_count_132 (by decide) ?_
                          cases hf
                          exact hret _ _ _ _ dX5_count_135 hP hD hS
def f_X5_with (x0 : Int64) (x2 : Int64) : Int64 :=
  (((31 : Int64) * x0) + x2)
abbrev rm_X5_with : Room := { frames := 0, cells := 0, slots := 0, locals := 0 }
set_option maxHeartbeats 4000000 in
set_option maxRecDepth 100000 in
theorem c_X5_with (l : Launch) (D : va_G) (cI cJ : ClassId) (ad : Nat → Nat) (sz : Nat)  (x0 : Int64) (x2 : Int64) {o_res : Int64} (hf : f_X5_with x0 x2 = o_res) : CtL l yX5_with wsX5_with rm_X5_with D cI cJ [.long x0, .long x2] [] sz o_res [] := by
  refine ctL_of (cc := cX5_with) (maxL := 4) (by decide) rfl (Nat.le_of_ble_eq_true rfl) ?_
  intro p e s m below meth c Q A hx hb hml hown hts hK hN hA hret ls hl hP hD hS
  obtain ⟨args, hargs⟩ : ∃ a : Array Value, a = [.long x0, .long x2].toArray := ⟨_, rfl⟩
  rw [← hargs] at hts hret ⊢
  have hown : s.vm.findClass RX5 = some m.cls := hown
  have hl : lv_has ls 4 [(0, .long x0), (2, .long x2)] := hl
  unfold f_X5_with at hf
  refine lv_ldc2 (v := (31 : Int64)) hx hb hown (hat hts 1 rfl) dX5_with_0 ?_
  refine lv_lload_n hx hb dX5_with_3 rfl (lv_at hl 0 rfl) ?_
  refine lv_lmul hx hb dX5_with_4 ?_
  refine lv_lload_n hx hb dX5_with_5 rfl (lv_at hl 1 rfl) ?_
  refine lv_ladd hx hb dX5_with_6 ?_
  cases hf
  exact hret _ _ _ _ dX5_with_7 hP hD hS
def f_X5_withLinks_L65 (mk_bits : Nat → Int64) (x5_a5 : Int32) : Nat → Int64 → Int32 → Option (Int64)
  | 0, _, _ => none
  | n + 1, x3_a65, x6_a65 =>
      if (3 : Int32) ≤ x6_a65 then
        some x3_a65
      else
        Option.bind (f_X3_ofLink mk_bits x5_a5 x6_a65) fun r21 =>
        f_X5_withLinks_L65 mk_bits x5_a5 n (f_X5_with x3_a65 r21) (x6_a65 + (1 : Int32))
theorem f_X5_withLinks_L65_s (mk_bits : Nat → Int64) (x5_a5 : Int32) (n : Nat) (x3_a65 : Int64) (x6_a65 : Int32) : f_X5_withLinks_L65 mk_bits x5_a5 (n + 1) x3_a65 x6_a65 =
      (if (3 : Int32) ≤ x6_a65 then
        some x3_a65
      else
        Option.bind (f_X3_ofLink mk_bits x5_a5 x6_a65) fun r21 =>
        f_X5_withLinks_L65 mk_bits x5_a5 n (f_X5_with x3_a65 r21) (x6_a65 + (1 : Int32))) := rfl
def f_X5_withLinks_L5 (gr_links : Int32) (gr_start : Nat → Int32) (gr_end : Nat → Int32) (mk_bits : Nat → Int64) (bn_links : Nat → Int32) : Nat → Int64 → Int32 → Option (Int64)
  | 0, _, _ => none
  | n + 1, x3_a5, x5_a5 =>
      if (f_X2_linkCount gr_links) ≤ x5_a5 then
        some x3_a5
      else
        Option.bind (f_X2_startOf gr_start x5_a5) fun r6 =>
        Option.bind (f_X2_endOf gr_end x5_a5) fun r10 =>
        Option.bind (f_X0_placesWith bn_links x5_a5) fun r14 =>
        Option.bind (f_X5_withLinks_L65 mk_bits x5_a5 100 (f_X5_with (f_X5_with (f_X5_with x3_a5 ((r6).toInt64)) ((r10).toInt64)) ((r14).toInt64)) (0 : Int32)) fun x3_o17 =>
        f_X5_withLinks_L5 gr_links gr_start gr_end mk_bits bn_links n x3_o17 (x5_a5 + (1 : Int32))
theorem f_X5_withLinks_L5_s (gr_links : Int32) (gr_start : Nat → Int32) (gr_end : Nat → Int32) (mk_bits : Nat → Int64) (bn_links : Nat → Int32) (n : Nat) (x3_a5 : Int64) (x5_a5 : Int32) : f_X5_withLinks_L5 gr_links gr_start gr_end mk_bits bn_links (n + 1) x3_a5 x5_a5 =
      (if (f_X2_linkCount gr_links) ≤ x5_a5 then
        some x3_a5
      else
        Option.bind (f_X2_startOf gr_start x5_a5) fun r6 =>
        Option.bind (f_X2_endOf gr_end x5_a5) fun r10 =>
        Option.bind (f_X0_placesWith bn_links x5_a5) fun r14 =>
        Option.bind (f_X5_withLinks_L65 mk_bits x5_a5 100 (f_X5_with (f_X5_with (f_X5_with x3_a5 ((r6).toInt64)) ((r10).toInt64)) ((r14).toInt64)) (0 : Int32)) fun x3_o17 =>
        f_X5_withLinks_L5 gr_links gr_start gr_end mk_bits bn_links n x3_o17 (x5_a5 + (1 : Int32))) := rfl
def f_X5_withLinks (gr_links : Int32) (gr_start : Nat → Int32) (gr_end : Nat → Int32) (mk_bits : Nat → Int64) (bn_links : Nat → Int32) (x1 : Int64) : Option (Int64) :=
  Option.bind (f_X5_withLinks_L5 gr_links gr_start gr_end mk_bits bn_links 100 x1 (0 : Int32)) fun x3_o1 =>
  some x3_o1
abbrev rm_X5_withLinks : Room := { frames := 2, cells := 0, slots := 0, locals := 42 }
set_option maxHeartbeats 4000000 in
set_option maxRecDepth 100000 in
theorem c_X5_withLinks (l : Launch) (D : va_G) (cI cJ : ClassId) (ad : Nat → Nat) (sz : Nat) {xx_netsRead xx_timesSent xx_passagesSent xx_astraySent xx_loopsSent : Int32} {pg_codes : Nat → Int32} {pg_length gr_nodes gr_links : Int32} {gr_start gr_end gr_linkBetween gr_wayLength gr_wayNext gr_wayLinks : Nat → Int32} {mk_width mk_drawn mk_seed : Int32} {mk_nextSeed : Int64} {mk_bits : Nat → Int64} {bn_links : Nat → Int32} {fl_foldBits fl_passages fl_astray fl_loops fl_steps fl_reached fl_matchingAside : Int32} (x1 : Int64) {o_res : Int64} (hf : f_X5_withLinks gr_links gr_start gr_end mk_bits bn_links x1 = some o_res) : CtL l yX5_withLinks wsX5_withLinks rm_X5_withLinks D cI cJ [.ref (ad 0), .long x1] (wdX cI cJ ad xx_netsRead xx_timesSent xx_passagesSent xx_astraySent xx_loopsSent pg_codes pg_length gr_nodes gr_links gr_start gr_end gr_linkBetween gr_wayLength gr_wayNext gr_wayLinks mk_width mk_drawn mk_seed mk_nextSeed mk_bits bn_links fl_foldBits fl_passages fl_astray fl_loops fl_steps fl_reached fl_matchingAside) sz o_res (wdX cI cJ ad xx_netsRead xx_timesSent xx_passagesSent xx_astraySent xx_loopsSent pg_codes pg_length gr_nodes gr_links gr_start gr_end gr_linkBetween gr_wayLength gr_wayNext gr_wayLinks mk_width mk_drawn mk_seed mk_nextSeed mk_bits bn_links fl_foldBits fl_passages fl_astray fl_loops fl_steps fl_reached fl_matchingAside) := by
  refine ctL_of (cc := cX5_withLinks) (maxL := 7) (by decide) rfl (Nat.le_of_ble_eq_true rfl) ?_
  intro p e s m below meth c Q A hx hb hml hown hts hK hN hA hret ls hl hP hD hS
  obtain ⟨args, hargs⟩ : ∃ a : Array Value, a = [.ref (ad 0), .long x1].toArray := ⟨_, rfl⟩
  rw [← hargs] at hts hret ⊢
  have hown : s.vm.findClass RX5 = some m.cls := hown
  have hl : lv_has ls 7 [(0, .ref (ad 0)), (1, .long x1)] := hl
  have hin_X5 : ∀ w ∈ wsX50, w ∈ wsX5_withLinks := fun _ h => List.mem_cons_of_mem _ (List.mem_append_left _ (List.mem_append_left _ (List.mem_append_left _ (List.mem_append_right _ h))))
  have fl_19 : (Cond.fieldLink RX5 19 "FoldedWays" "graph" "LFoldedWays$Graph;").before args s = true := hat hts 1 rfl
  have fl_26 : (Cond.fieldLink RX5 26 "FoldedWays" "marks" "LFoldedWays$Marks;").before args s = true := hat hts 3 rfl
  have fl_33 : (Cond.fieldLink RX5 33 "FoldedWays" "bundles" "LFoldedWays$Bundles;").before args s = true := hat hts 2 rfl
  unfold f_X5_withLinks at hf
  refine lv_lload_n hx hb dX5_withLinks_0 rfl (lv_at hl 1 rfl) ?_
  refine lv_lstore_n (lv' := [(3, .long x1), (0, .ref (ad 0)), (1, .long x1)]) hx hb dX5_withLinks_1 rfl hl (by decide) rfl (fun ls hl => ?_)
  refine lv_iconst (v := (0 : Int32)) hx hb dX5_withLinks_2 (by decide) ?_
  refine lv_istore (lv' := [(5, .int (0 : Int32)), (3, .long x1), (0, .ref (ad 0)), (1, .long x1)]) hx hb dX5_withLinks_3 hl (by decide) rfl (fun ls hl => ?_)
  have lp2 : ∀ (n : Nat) (x3_a5 : Int64) (x5_a5 : Int32) (x3_o1 : Int64), f_X5_withLinks_L5 gr_links gr_start gr_end mk_bits bn_links n x3_a5 x5_a5 = some x3_o1 → (∀ (H : Heap) (locs : List Loc) (ls : Array Slot), va_P D vwCl (wdX cI cJ ad xx_netsRead xx_timesSent xx_passagesSent xx_astraySent xx_loopsSent pg_codes pg_length gr_nodes gr_links gr_start gr_end gr_linkBetween gr_wayLength gr_wayNext gr_wayLinks mk_width mk_drawn mk_seed mk_nextSeed mk_bits bn_links fl_foldBits fl_passages fl_astray fl_loops fl_steps fl_reached fl_matchingAside) H → va_D A (wdX cI cJ ad xx_netsRead xx_timesSent xx_passagesSent xx_astraySent xx_loopsSent pg_codes pg_length gr_nodes gr_links gr_start gr_end gr_linkBetween gr_wayLength gr_wayNext gr_wayLinks mk_width mk_drawn mk_seed mk_nextSeed mk_bits bn_links fl_foldBits fl_passages fl_astray fl_loops fl_steps fl_reached fl_matchingAside) → va_S A s.heap H locs → lv_has ls 7 [(3, .long x3_o1)] → W p l e rm_X5_withLinks s m args below meth c H locs 0 0 Q (F0 m 99 ls [])) → ∀ (H : Heap) (locs : List Loc) (ls : Array Slot), va_P D vwCl (wdX cI cJ ad xx_netsRead xx_timesSent xx_passagesSent xx_astraySent xx_loopsSent pg_codes pg_length gr_nodes gr_links gr_start gr_end gr_linkBetween gr_wayLength gr_wayNext gr_wayLinks mk_width mk_drawn mk_seed mk_nextSeed mk_bits bn_links fl_foldBits fl_passages fl_astray fl_loops fl_steps fl_reached fl_matchingAside) H → va_D A (wdX cI cJ ad xx_netsRead xx_timesSent xx_passagesSent xx_astraySent xx_loopsSent pg_codes pg_length gr_nodes gr_links gr_start gr_end gr_linkBetween gr_wayLength gr_wayNext gr_wayLinks mk_width mk_drawn mk_seed mk_nextSeed mk_bits bn_links fl_foldBits fl_passages fl_astray fl_loops fl_steps fl_reached fl_matchingAside) → va_S A s.heap H locs → lv_has ls 7 [(0, .ref (ad 0)), (3, .long x3_a5), (5, .int x5_a5)] → W p l e rm_X5_withLinks s m args below meth c H locs 0 0 Q (F0 m 5 ls []) := by
    intro n
    induction n with
    | zero =>
      intro x3_a5 x5_a5 x3_o1 h0
      exact oo_n h0
    | succ n ih =>
      intro x3_a5 x5_a5 x3_o1 hf kk H locs ls hP hD hS hl
      rw [f_X5_withLinks_L5_s] at hf
      refine lv_iload hx hb dX5_withLinks_5 (lv_at hl 2 rfl) ?_
      refine lv_aload_n hx hb dX5_withLinks_7 rfl (lv_at hl 0 rfl) ?_
      refine va_get (ci := 5) (v := .ref (ad 3)) (C := RX5) (T := TX5) (N := 10) hx hb hts hin_X5 hown hK hP 0 rfl rfl 1 (by decide) fl_19 (fun _ h9 => h9) rfl dX5_withLinks_8 ?_
      have F : Fr D A _ (wdG cI cJ ad gr_nodes gr_links gr_start gr_end gr_linkBetween gr_wayLength gr_wayNext gr_wayLinks) (wdG cI cJ ad gr_nodes gr_links gr_start gr_end gr_linkBetween gr_wayLength gr_wayNext gr_wayLinks) (wdX cI cJ ad xx_netsRead xx_timesSent xx_passagesSent xx_astraySent xx_loopsSent pg_codes pg_length gr_nodes gr_links gr_start gr_end gr_linkBetween gr_wayLength gr_wayNext gr_wayLinks mk_width mk_drawn mk_seed mk_nextSeed mk_bits bn_links fl_foldBits fl_passages fl_astray fl_loops fl_steps fl_reached fl_matchingAside) := fr_X_G hP hD hS hA
      refine kI F hS (rV (q := (RX2, TX2, 8)) (As := []) (rest := [.int x5_a5]) ⟨hx, hb, hml, hown, hts⟩ hK hN F (c_X2_linkCount l D cI cJ ad _ (gr_nodes := gr_nodes) (gr_links := gr_links) (gr_start := gr_start) (gr_end := gr_end) (gr_linkBetween := gr_linkBetween) (gr_wayLength := gr_wayLength) (gr_wayNext := gr_wayNext) (gr_wayLinks := gr_wayLinks)  (o_res := (f_X2_linkCount gr_links)) rfl) (cwV 0 hts gX5_withLinks_X2_linkCount rfl rfl rfl (by decide +kernel) ⟨Nat.le_of_ble_eq_true rfl, Nat.le_of_ble_eq_true rfl⟩) (ci := 2) rfl rfl rfl hl.1 rfl (Nat.le_of_ble_eq_true rfl) dX5_withLinks_11 ⟨Nat.zero_le _, Nat.zero_le _⟩) (fun H locs hP hD hS => ?_)
      refine lv_icmp_ge (tgt := 99) hx hb dX5_withLinks_14 (by decide) (fun c4 => ?_) (fun c4 => ?_)
      · have hf := oo_t hf c4
        cases hf
        exact kk _ _ _ hP hD hS (lv_sub hl [1] rfl)
      · have hf := oo_f hf c4
        refine lv_lload_n hx hb dX5_withLinks_17 rfl (lv_at hl 1 rfl) ?_
        refine lv_aload_n hx hb dX5_withLinks_18 rfl (lv_at hl 0 rfl) ?_
        refine va_get (ci := 5) (v := .ref (ad 3)) (C := RX5) (T := TX5) (N := 10) hx hb hts hin_X5 hown hK hP 0 rfl rfl 1 (by decide) fl_19 (fun _ h9 => h9) rfl dX5_withLinks_19 ?_
        refine lv_iload hx hb dX5_withLinks_22 (lv_at hl 2 rfl) ?_
        obtain ⟨r6, h5, hf⟩ := oo_b hf
        try dsimp only at hf
        have F : Fr D A _ (wdG cI cJ ad gr_nodes gr_links gr_start gr_end gr_linkBetween gr_wayLength gr_wayNext gr_wayLinks) (wdG cI cJ ad gr_nodes gr_links gr_start gr_end gr_linkBetween gr_wayLength gr_wayNext gr_wayLinks) (wdX cI cJ ad xx_netsRead xx_timesSent xx_passagesSent xx_astraySent xx_loopsSent pg_codes pg_length gr_nodes gr_links gr_start gr_end gr_linkBetween gr_wayLength gr_wayNext gr_wayLinks mk_width mk_drawn mk_seed mk_nextSeed mk_bits bn_links fl_foldBits fl_passages fl_astray fl_loops fl_steps fl_reached fl_matchingAside) := fr_X_G hP hD hS hA
        refine kI F hS (rV (q := (RX2, TX2, 8)) (As := [.int x5_a5]) (rest := [.long x3_a5]) ⟨hx, hb, hml, hown, hts⟩ hK hN F (c_X2_startOf l D cI cJ ad _ (gr_nodes := gr_nodes) (gr_links := gr_links) (gr_start := gr_start) (gr_end := gr_end) (gr_linkBetween := gr_linkBetween) (gr_wayLength := gr_wayLength) (gr_wayNext := gr_wayNext) (gr_wayLinks := gr_wayLinks) x5_a5 (o_res := r6) h5) (cwV 1 hts gX5_withLinks_X2_startOf rfl rfl rfl (by decide +kernel) ⟨Nat.le_of_ble_eq_true rfl, Nat.le_of_ble_eq_true rfl⟩) (ci := 2) rfl rfl rfl hl.1 rfl (Nat.le_of_ble_eq_true rfl) dX5_withLinks_24 ⟨Nat.zero_le _, Nat.zero_le _⟩) (fun H locs hP hD hS => ?_)
        refine lv_i2l (v := (r6).toInt64) hx hb dX5_withLinks_27 rfl ?_
        have F : Fr D A _ [] [] (wdX cI cJ ad xx_netsRead xx_timesSent xx_passagesSent xx_astraySent xx_loopsSent pg_codes pg_length gr_nodes gr_links gr_start gr_end gr_linkBetween gr_wayLength gr_wayNext gr_wayLinks mk_width mk_drawn mk_seed mk_nextSeed mk_bits bn_links fl_foldBits fl_passages fl_astray fl_loops fl_steps fl_reached fl_matchingAside) := fr_nil hP hD hS hA
        refine kL F hS (rS (As := [.long x3_a5, .long ((r6).toInt64)]) (rest := []) ⟨hx, hb, hml, hown, hts⟩ hK hN F (c_X5_with l D cI cJ ad _  x3_a5 ((r6).toInt64) (o_res := (f_X5_with x3_a5 ((r6).toInt64))) rfl) (cwS 2 hts gX5_withLinks_X5_with rfl rfl rfl (by decide +kernel) ⟨Nat.le_of_ble_eq_true rfl, Nat.le_of_ble_eq_true rfl⟩) rfl hl.1 rfl (Nat.le_of_ble_eq_true rfl) dX5_withLinks_28 ⟨Nat.zero_le _, Nat.zero_le _⟩) (fun H locs hP hD hS => ?_)
        refine lv_lstore_n (lv' := [(3, .long (f_X5_with x3_a5 ((r6).toInt64))), (0, .ref (ad 0)), (5, .int x5_a5)]) hx hb dX5_withLinks_31 rfl hl (by decide) rfl (fun ls hl => ?_)
        refine lv_lload_n hx hb dX5_withLinks_32 rfl (lv_at hl 0 rfl) ?_
        refine lv_aload_n hx hb dX5_withLinks_33 rfl (lv_at hl 1 rfl) ?_
        refine va_get (ci := 5) (v := .ref (ad 3)) (C := RX5) (T := TX5) (N := 10) hx hb hts hin_X5 hown hK hP 0 rfl rfl 1 (by decide) fl_19 (fun _ h9 => h9) rfl dX5_withLinks_34 ?_
        refine lv_iload hx hb dX5_withLinks_37 (lv_at hl 2 rfl) ?_
        obtain ⟨r10, h9, hf⟩ := oo_b hf
        try dsimp only at hf
        have F : Fr D A _ (wdG cI cJ ad gr_nodes gr_links gr_start gr_end gr_linkBetween gr_wayLength gr_wayNext gr_wayLinks) (wdG cI cJ ad gr_nodes gr_links gr_start gr_end gr_linkBetween gr_wayLength gr_wayNext gr_wayLinks) (wdX cI cJ ad xx_netsRead xx_timesSent xx_passagesSent xx_astraySent xx_loopsSent pg_codes pg_length gr_nodes gr_links gr_start gr_end gr_linkBetween gr_wayLength gr_wayNext gr_wayLinks mk_width mk_drawn mk_seed mk_nextSeed mk_bits bn_links fl_foldBits fl_passages fl_astray fl_loops fl_steps fl_reached fl_matchingAside) := fr_X_G hP hD hS hA
        refine kI F hS (rV (q := (RX2, TX2, 8)) (As := [.int x5_a5]) (rest := [.long (f_X5_with x3_a5 ((r6).toInt64))]) ⟨hx, hb, hml, hown, hts⟩ hK hN F (c_X2_endOf l D cI cJ ad _ (gr_nodes := gr_nodes) (gr_links := gr_links) (gr_start := gr_start) (gr_end := gr_end) (gr_linkBetween := gr_linkBetween) (gr_wayLength := gr_wayLength) (gr_wayNext := gr_wayNext) (gr_wayLinks := gr_wayLinks) x5_a5 (o_res := r10) h9) (cwV 1 hts gX5_withLinks_X2_endOf rfl rfl rfl (by decide +kernel) ⟨Nat.le_of_ble_eq_true rfl, Nat.le_of_ble_eq_true rfl⟩) (ci := 2) rfl rfl rfl hl.1 rfl (Nat.le_of_ble_eq_true rfl) dX5_withLinks_39 ⟨Nat.zero_le _, Nat.zero_le _⟩) (fun H locs hP hD hS => ?_)
        refine lv_i2l (v := (r10).toInt64) hx hb dX5_withLinks_42 rfl ?_
        have F : Fr D A _ [] [] (wdX cI cJ ad xx_netsRead xx_timesSent xx_passagesSent xx_astraySent xx_loopsSent pg_codes pg_length gr_nodes gr_links gr_start gr_end gr_linkBetween gr_wayLength gr_wayNext gr_wayLinks mk_width mk_drawn mk_seed mk_nextSeed mk_bits bn_links fl_foldBits fl_passages fl_astray fl_loops fl_steps fl_reached fl_matchingAside) := fr_nil hP hD hS hA
        refine kL F hS (rS (As := [.long (f_X5_with x3_a5 ((r6).toInt64)), .long ((r10).toInt64)]) (rest := []) ⟨hx, hb, hml, hown, hts⟩ hK hN F (c_X5_with l D cI cJ ad _  (f_X5_with x3_a5 ((r6).toInt64)) ((r10).toInt64) (o_res := (f_X5_with (f_X5_with x3_a5 ((r6).toInt64)) ((r10).toInt64))) rfl) (cwS 2 hts gX5_withLinks_X5_with rfl rfl rfl (by decide +kernel) ⟨Nat.le_of_ble_eq_true rfl, Nat.le_of_ble_eq_true rfl⟩) rfl hl.1 rfl (Nat.le_of_ble_eq_true rfl) dX5_withLinks_43 ⟨Nat.zero_le _, Nat.zero_le _⟩) (fun H locs hP hD hS => ?_)
        refine lv_lstore_n (lv' := [(3, .long (f_X5_with (f_X5_with x3_a5 ((r6).toInt64)) ((r10).toInt64))), (0, .ref (ad 0)), (5, .int x5_a5)]) hx hb dX5_withLinks_46 rfl hl (by decide) rfl (fun ls hl => ?_)
        refine lv_lload_n hx hb dX5_withLinks_47 rfl (lv_at hl 0 rfl) ?_
        refine lv_aload_n hx hb dX5_withLinks_48 rfl (lv_at hl 1 rfl) ?_
        refine va_get (ci := 5) (v := .ref (ad 12)) (C := RX5) (T := TX5) (N := 10) hx hb hts hin_X5 hown hK hP 0 rfl rfl 3 (by decide) fl_33 (fun _ h9 => h9) rfl dX5_withLinks_49 ?_
        refine lv_iload hx hb dX5_withLinks_52 (lv_at hl 2 rfl) ?_
        obtain ⟨r14, h13, hf⟩ := oo_b hf
        try dsimp only at hf
        have F : Fr D A _ (wdB cI cJ ad bn_links) (wdB cI cJ ad bn_links) (wdX cI cJ ad xx_netsRead xx_timesSent xx_passagesSent xx_astraySent xx_loopsSent pg_codes pg_length gr_nodes gr_links gr_start gr_end gr_linkBetween gr_wayLength gr_wayNext gr_wayLinks mk_width mk_drawn mk_seed mk_nextSeed mk_bits bn_links fl_foldBits fl_passages fl_astray fl_loops fl_steps fl_reached fl_matchingAside) := fr_X_B hP hD hS hA
        refine kI F hS (rV (q := (RX0, TX0, 1)) (As := [.int x5_a5]) (rest := [.long (f_X5_with (f_X5_with x3_a5 ((r6).toInt64)) ((r10).toInt64))]) ⟨hx, hb, hml, hown, hts⟩ hK hN F (c_X0_placesWith l D cI cJ ad _ (bn_links := bn_links) x5_a5 (o_res := r14) h13) (cwV 1 hts gX5_withLinks_X0_placesWith rfl rfl rfl (by decide +kernel) ⟨Nat.le_of_ble_eq_true rfl, Nat.le_of_ble_eq_true rfl⟩) (ci := 0) rfl rfl rfl hl.1 rfl (Nat.le_of_ble_eq_true rfl) dX5_withLinks_54 ⟨Nat.zero_le _, Nat.zero_le _⟩) (fun H locs hP hD hS => ?_)
        refine lv_i2l (v := (r14).toInt64) hx hb dX5_withLinks_57 rfl ?_
        have F : Fr D A _ [] [] (wdX cI cJ ad xx_netsRead xx_timesSent xx_passagesSent xx_astraySent xx_loopsSent pg_codes pg_length gr_nodes gr_links gr_start gr_end gr_linkBetween gr_wayLength gr_wayNext gr_wayLinks mk_width mk_drawn mk_seed mk_nextSeed mk_bits bn_links fl_foldBits fl_passages fl_astray fl_loops fl_steps fl_reached fl_matchingAside) := fr_nil hP hD hS hA
        refine kL F hS (rS (As := [.long (f_X5_with (f_X5_with x3_a5 ((r6).toInt64)) ((r10).toInt64)), .long ((r14).toInt64)]) (rest := []) ⟨hx, hb, hml, hown, hts⟩ hK hN F (c_X5_with l D cI cJ ad _  (f_X5_with (f_X5_with x3_a5 ((r6).toInt64)) ((r10).toInt64)) ((r14).toInt64) (o_res := (f_X5_with (f_X5_with (f_X5_with x3_a5 ((r6).toInt64)) ((r10).toInt64)) ((r14).toInt64))) rfl) (cwS 2 hts gX5_withLinks_X5_with rfl rfl rfl (by decide +kernel) ⟨Nat.le_of_ble_eq_true rfl, Nat.le_of_ble_eq_true rfl⟩) rfl hl.1 rfl (Nat.le_of_ble_eq_true rfl) dX5_withLinks_58 ⟨Nat.zero_le _, Nat.zero_le _⟩) (fun H locs hP hD hS => ?_)
        refine lv_lstore_n (lv' := [(3, .long (f_X5_with (f_X5_with (f_X5_with x3_a5 ((r6).toInt64)) ((r10).toInt64)) ((r14).toInt64))), (0, .ref (ad 0)), (5, .int x5_a5)]) hx hb dX5_withLinks_61 rfl hl (by decide) rfl (fun ls hl => ?_)
        refine lv_iconst (v := (0 : Int32)) hx hb dX5_withLinks_62 (by decide) ?_
        refine lv_istore (lv' := [(6, .int (0 : Int32)), (3, .long (f_X5_with (f_X5_with (f_X5_with x3_a5 ((r6).toInt64)) ((r10).toInt64)) ((r14).toInt64))), (0, .ref (ad 0)), (5, .int x5_a5)]) hx hb dX5_withLinks_63 hl (by decide) rfl (fun ls hl => ?_)
        have lp18 : ∀ (n : Nat) (x3_a65 : Int64) (x6_a65 : Int32) (x3_o17 : Int64), f_X5_withLinks_L65 mk_bits x5_a5 n x3_a65 x6_a65 = some x3_o17 → (∀ (H : Heap) (locs : List Loc) (ls : Array Slot), va_P D vwCl (wdX cI cJ ad xx_netsRead xx_timesSent xx_passagesSent xx_astraySent xx_loopsSent pg_codes pg_length gr_nodes gr_links gr_start gr_end gr_linkBetween gr_wayLength gr_wayNext gr_wayLinks mk_width mk_drawn mk_seed mk_nextSeed mk_bits bn_links fl_foldBits fl_passages fl_astray fl_loops fl_steps fl_reached fl_matchingAside) H → va_D A (wdX cI cJ ad xx_netsRead xx_timesSent xx_passagesSent xx_astraySent xx_loopsSent pg_codes pg_length gr_nodes gr_links gr_start gr_end gr_linkBetween gr_wayLength gr_wayNext gr_wayLinks mk_width mk_drawn mk_seed mk_nextSeed mk_bits bn_links fl_foldBits fl_passages fl_astray fl_loops fl_steps fl_reached fl_matchingAside) → va_S A s.heap H locs → lv_has ls 7 [(0, .ref (ad 0)), (3, .long x3_o17), (5, .int x5_a5)] → W p l e rm_X5_withLinks s m args below meth c H locs 0 0 Q (F0 m 93 ls [])) → ∀ (H : Heap) (locs : List Loc) (ls : Array Slot), va_P D vwCl (wdX cI cJ ad xx_netsRead xx_timesSent xx_passagesSent xx_astraySent xx_loopsSent pg_codes pg_length gr_nodes gr_links gr_start gr_end gr_linkBetween gr_wayLength gr_wayNext gr_wayLinks mk_width mk_drawn mk_seed mk_nextSeed mk_bits bn_links fl_foldBits fl_passages fl_astray fl_loops fl_steps fl_reached fl_matchingAside) H → va_D A (wdX cI cJ ad xx_netsRead xx_timesSent xx_passagesSent xx_astraySent xx_loopsSent pg_codes pg_length gr_nodes gr_links gr_start gr_end gr_linkBetween gr_wayLength gr_wayNext gr_wayLinks mk_width mk_drawn mk_seed mk_nextSeed mk_bits bn_links fl_foldBits fl_passages fl_astray fl_loops fl_steps fl_reached fl_matchingAside) → va_S A s.heap H locs → lv_has ls 7 [(0, .ref (ad 0)), (3, .long x3_a65), (5, .int x5_a5), (6, .int x6_a65)] → W p l e rm_X5_withLinks s m args below meth c H locs 0 0 Q (F0 m 65 ls []) := by
          intro n
          induction n with
          | zero =>
            intro x3_a65 x6_a65 x3_o17 h0
            exact oo_n h0
          | succ n ih =>
            intro x3_a65 x6_a65 x3_o17 hf kk H locs ls hP hD hS hl
            rw [f_X5_withLinks_L65_s] at hf
            refine lv_iload hx hb dX5_withLinks_65 (lv_at hl 3 rfl) ?_
            refine lv_iconst (v := (3 : Int32)) hx hb dX5_withLinks_67 (by decide) ?_
            refine lv_icmp_ge (tgt := 93) hx hb dX5_withLinks_68 (by decide) (fun c19 => ?_) (fun c19 => ?_)
            · have hf := oo_t hf c19
              cases hf
              exact kk _ _ _ hP hD hS (lv_sub hl [0, 1, 2] rfl)
            · have hf := oo_f hf c19
              refine lv_lload_n hx hb dX5_withLinks_71 rfl (lv_at hl 1 rfl) ?_
              refine lv_aload_n hx hb dX5_withLinks_72 rfl (lv_at hl 0 rfl) ?_
              refine va_get (ci := 5) (v := .ref (ad 10)) (C := RX5) (T := TX5) (N := 10) hx hb hts hin_X5 hown hK hP 0 rfl rfl 2 (by decide) fl_26 (fun _ h9 => h9) rfl dX5_withLinks_73 ?_
              refine lv_iload hx hb dX5_withLinks_76 (lv_at hl 2 rfl) ?_
              refine lv_iload hx hb dX5_withLinks_78 (lv_at hl 3 rfl) ?_
              obtain ⟨r21, h20, hf⟩ := oo_b hf
              try dsimp only at hf
              have F : Fr D A _ (wdK cI cJ ad mk_width mk_drawn mk_seed mk_nextSeed mk_bits) (wdK cI cJ ad mk_width mk_drawn mk_seed mk_nextSeed mk_bits) (wdX cI cJ ad xx_netsRead xx_timesSent xx_passagesSent xx_astraySent xx_loopsSent pg_codes pg_length gr_nodes gr_links gr_start gr_end gr_linkBetween gr_wayLength gr_wayNext gr_wayLinks mk_width mk_drawn mk_seed mk_nextSeed mk_bits bn_links fl_foldBits fl_passages fl_astray fl_loops fl_steps fl_reached fl_matchingAside) := fr_X_K hP hD hS hA
              refine kL F hS (rV (q := (RX3, TX3, 5)) (As := [.int x5_a5, .int x6_a65]) (rest := [.long x3_a65]) ⟨hx, hb, hml, hown, hts⟩ hK hN F (c_X3_ofLink l D cI cJ ad _ (mk_width := mk_width) (mk_drawn := mk_drawn) (mk_seed := mk_seed) (mk_nextSeed := mk_nextSeed) (mk_bits := mk_bits) x5_a5 x6_a65 (o_res := r21) h20) (cwV 2 hts gX5_withLinks_X3_ofLink rfl rfl rfl (by decide +kernel) ⟨Nat.le_of_ble_eq_true rfl, Nat.le_of_ble_eq_true rfl⟩) (ci := 3) rfl rfl rfl hl.1 rfl (Nat.le_of_ble_eq_true rfl) dX5_withLinks_80 ⟨Nat.zero_le _, Nat.zero_le _⟩) (fun H locs hP hD hS => ?_)
              have F : Fr D A _ [] [] (wdX cI cJ ad xx_netsRead xx_timesSent xx_passagesSent xx_astraySent xx_loopsSent pg_codes pg_length gr_nodes gr_links gr_start gr_end gr_linkBetween gr_wayLength gr_wayNext gr_wayLinks mk_width mk_drawn mk_seed mk_nextSeed mk_bits bn_links fl_foldBits fl_passages fl_astray fl_loops fl_steps fl_reached fl_matchingAside) := fr_nil hP hD hS hA
              refine kL F hS (rS (As := [.long x3_a65, .long r21]) (rest := []) ⟨hx, hb, hml, hown, hts⟩ hK hN F (c_X5_with l D cI cJ ad _  x3_a65 r21 (o_res := (f_X5_with x3_a65 r21)) rfl) (cwS 2 hts gX5_withLinks_X5_with rfl rfl rfl (by decide +kernel) ⟨Nat.le_of_ble_eq_true rfl, Nat.le_of_ble_eq_true rfl⟩) rfl hl.1 rfl (Nat.le_of_ble_eq_true rfl) dX5_withLinks_83 ⟨Nat.zero_le _, Nat.zero_le _⟩) (fun H locs hP hD hS => ?_)
              refine lv_lstore_n (lv' := [(3, .long (f_X5_with x3_a65 r21)), (0, .ref (ad 0)), (5, .int x5_a5), (6, .int x6_a65)]) hx hb dX5_withLinks_86 rfl hl (by decide) rfl (fun ls hl => ?_)
              refine lv_iinc (v := (x6_a65 + (1 : Int32))) (lv' := [(6, .int (x6_a65 + (1 : Int32))), (3, .long (f_X5_with x3_a65 r21)), (0, .ref (ad 0)), (5, .int x5_a5)]) hx hb dX5_withLinks_87 hl (k := 3) rfl rfl (by decide) rfl (fun ls hl => ?_)
              refine lv_goto (tgt := 65) hx hb dX5_withLinks_90 (by decide) ?_
              exact ih (f_X5_with x3_a65 r21) (x6_a65 + (1 : Int32)) _ hf kk _ _ _ hP hD hS (lv_sub hl [2, 1, 3, 0] rfl)
        obtain ⟨x3_o17, h24, hf⟩ := oo_b hf
        try dsimp only at hf
        refine lp18  100 (f_X5_with (f_X5_with (f_X5_with x3_a5 ((r6).toInt64)) ((r10).toInt64)) ((r14).toInt64)) (0 : Int32) x3_o17 h24 (fun H locs ls hP hD hS hl => ?_) _ _ _ hP hD hS (lv_sub hl [2, 1, 3, 0] rfl)
        refine lv_iinc (v := (x5_a5 + (1 : Int32))) (lv' := [(5, .int (x5_a5 + (1 : Int32))), (0, .ref (ad 0)), (3, .long x3_o17)]) hx hb dX5_withLinks_93 hl (k := 2) rfl rfl (by decide) rfl (fun ls hl => ?_)
        refine lv_goto (tgt := 5) hx hb dX5_withLinks_96 (by decide) ?_
        exact ih x3_o17 (x5_a5 + (1 : Int32)) _ hf kk _ _ _ hP hD hS (lv_sub hl [1, 2, 0] rfl)
  obtain ⟨x3_o1, h25, hf⟩ := oo_b hf
  try dsimp only at hf
  refine lp2  100 x1 (0 : Int32) x3_o1 h25 (fun H locs ls hP hD hS hl => ?_) _ _ _ hP hD hS (lv_sub hl [2, 1, 0] rfl)
  refine lv_lload_n hx hb dX5_withLinks_99 rfl (lv_at hl 0 rfl) ?_
  cases hf
  exact hret _ _ _ _ dX5_withLinks_100 hP hD hS
def f_X5_withBundles_L34 (mk_bits : Nat → Int64) (x5_a5 : Int32) : Nat → Int64 → Int32 → Option (Int64)
  | 0, _, _ => none
  | n + 1, x3_a34, x6_a34 =>
      if (3 : Int32) ≤ x6_a34 then
        some x3_a34
      else
        Option.bind (f_X3_ofBundle mk_bits x5_a5 x6_a34) fun r16 =>
        f_X5_withBundles_L34 mk_bits x5_a5 n (f_X5_with x3_a34 r16) (x6_a34 + (1 : Int32))
theorem f_X5_withBundles_L34_s (mk_bits : Nat → Int64) (x5_a5 : Int32) (n : Nat) (x3_a34 : Int64) (x6_a34 : Int32) : f_X5_withBundles_L34 mk_bits x5_a5 (n + 1) x3_a34 x6_a34 =
      (if (3 : Int32) ≤ x6_a34 then
        some x3_a34
      else
        Option.bind (f_X3_ofBundle mk_bits x5_a5 x6_a34) fun r16 =>
        f_X5_withBundles_L34 mk_bits x5_a5 n (f_X5_with x3_a34 r16) (x6_a34 + (1 : Int32))) := rfl
def f_X5_withBundles_L5 (mk_bits : Nat → Int64) (bn_links : Nat → Int32) : Nat → Int64 → Int32 → Option (Int64)
  | 0, _, _ => none
  | n + 1, x3_a5, x5_a5 =>
      if (4 : Int32) ≤ x5_a5 then
        some x3_a5
      else
        Option.bind (f_X0_isThere bn_links x5_a5) fun r5 =>
        Option.bind (α := Int64) (if r5 = (0 : Int32) then
            some x3_a5
          else
            Option.bind (f_X5_withBundles_L34 mk_bits x5_a5 100 (f_X5_with x3_a5 ((x5_a5).toInt64)) (0 : Int32)) fun x3_o12 =>
            some x3_o12) fun x3_7 =>
        f_X5_withBundles_L5 mk_bits bn_links n x3_7 (x5_a5 + (1 : Int32))
theorem f_X5_withBundles_L5_s (mk_bits : Nat → Int64) (bn_links : Nat → Int32) (n : Nat) (x3_a5 : Int64) (x5_a5 : Int32) : f_X5_withBundles_L5 mk_bits bn_links (n + 1) x3_a5 x5_a5 =
      (if (4 : Int32) ≤ x5_a5 then
        some x3_a5
      else
        Option.bind (f_X0_isThere bn_links x5_a5) fun r5 =>
        Option.bind (α := Int64) (if r5 = (0 : Int32) then
            some x3_a5
          else
            Option.bind (f_X5_withBundles_L34 mk_bits x5_a5 100 (f_X5_with x3_a5 ((x5_a5).toInt64)) (0 : Int32)) fun x3_o12 =>
            some x3_o12) fun x3_7 =>
        f_X5_withBundles_L5 mk_bits bn_links n x3_7 (x5_a5 + (1 : Int32))) := rfl
def f_X5_withBundles (mk_bits : Nat → Int64) (bn_links : Nat → Int32) (x1 : Int64) : Option (Int64) :=
  Option.bind (f_X5_withBundles_L5 mk_bits bn_links 100 x1 (0 : Int32)) fun x3_o1 =>
  some x3_o1
abbrev rm_X5_withBundles : Room := { frames := 3, cells := 0, slots := 0, locals := 62 }
set_option maxHeartbeats 4000000 in
set_option maxRecDepth 100000 in
theorem c_X5_withBundles (l : Launch) (D : va_G) (cI cJ : ClassId) (ad : Nat → Nat) (sz : Nat) {xx_netsRead xx_timesSent xx_passagesSent xx_astraySent xx_loopsSent : Int32} {pg_codes : Nat → Int32} {pg_length gr_nodes gr_links : Int32} {gr_start gr_end gr_linkBetween gr_wayLength gr_wayNext gr_wayLinks : Nat → Int32} {mk_width mk_drawn mk_seed : Int32} {mk_nextSeed : Int64} {mk_bits : Nat → Int64} {bn_links : Nat → Int32} {fl_foldBits fl_passages fl_astray fl_loops fl_steps fl_reached fl_matchingAside : Int32} (x1 : Int64) {o_res : Int64} (hf : f_X5_withBundles mk_bits bn_links x1 = some o_res) : CtL l yX5_withBundles wsX5_withBundles rm_X5_withBundles D cI cJ [.ref (ad 0), .long x1] (wdX cI cJ ad xx_netsRead xx_timesSent xx_passagesSent xx_astraySent xx_loopsSent pg_codes pg_length gr_nodes gr_links gr_start gr_end gr_linkBetween gr_wayLength gr_wayNext gr_wayLinks mk_width mk_drawn mk_seed mk_nextSeed mk_bits bn_links fl_foldBits fl_passages fl_astray fl_loops fl_steps fl_reached fl_matchingAside) sz o_res (wdX cI cJ ad xx_netsRead xx_timesSent xx_passagesSent xx_astraySent xx_loopsSent pg_codes pg_length gr_nodes gr_links gr_start gr_end gr_linkBetween gr_wayLength gr_wayNext gr_wayLinks mk_width mk_drawn mk_seed mk_nextSeed mk_bits bn_links fl_foldBits fl_passages fl_astray fl_loops fl_steps fl_reached fl_matchingAside) := by
  refine ctL_of (cc := cX5_withBundles) (maxL := 7) (by decide) rfl (Nat.le_of_ble_eq_true rfl) ?_
  intro p e s m below meth c Q A hx hb hml hown hts hK hN hA hret ls hl hP hD hS
  obtain ⟨args, hargs⟩ : ∃ a : Array Value, a = [.ref (ad 0), .long x1].toArray := ⟨_, rfl⟩
  rw [← hargs] at hts hret ⊢
  have hown : s.vm.findClass RX5 = some m.cls := hown
  have hl : lv_has ls 7 [(0, .ref (ad 0)), (1, .long x1)] := hl
  have hin_X5 : ∀ w ∈ wsX50, w ∈ wsX5_withBundles := fun _ h => List.mem_cons_of_mem _ (List.mem_append_left _ (List.mem_append_left _ (List.mem_append_right _ h)))
  have fl_26 : (Cond.fieldLink RX5 26 "FoldedWays" "marks" "LFoldedWays$Marks;").before args s = true := hat hts 2 rfl
  have fl_33 : (Cond.fieldLink RX5 33 "FoldedWays" "bundles" "LFoldedWays$Bundles;").before args s = true := hat hts 1 rfl
  unfold f_X5_withBundles at hf
  refine lv_lload_n hx hb dX5_withBundles_0 rfl (lv_at hl 1 rfl) ?_
  refine lv_lstore_n (lv' := [(3, .long x1), (0, .ref (ad 0)), (1, .long x1)]) hx hb dX5_withBundles_1 rfl hl (by decide) rfl (fun ls hl => ?_)
  refine lv_iconst (v := (0 : Int32)) hx hb dX5_withBundles_2 (by decide) ?_
  refine lv_istore (lv' := [(5, .int (0 : Int32)), (3, .long x1), (0, .ref (ad 0)), (1, .long x1)]) hx hb dX5_withBundles_3 hl (by decide) rfl (fun ls hl => ?_)
  have lp2 : ∀ (n : Nat) (x3_a5 : Int64) (x5_a5 : Int32) (x3_o1 : Int64), f_X5_withBundles_L5 mk_bits bn_links n x3_a5 x5_a5 = some x3_o1 → (∀ (H : Heap) (locs : List Loc) (ls : Array Slot), va_P D vwCl (wdX cI cJ ad xx_netsRead xx_timesSent xx_passagesSent xx_astraySent xx_loopsSent pg_codes pg_length gr_nodes gr_links gr_start gr_end gr_linkBetween gr_wayLength gr_wayNext gr_wayLinks mk_width mk_drawn mk_seed mk_nextSeed mk_bits bn_links fl_foldBits fl_passages fl_astray fl_loops fl_steps fl_reached fl_matchingAside) H → va_D A (wdX cI cJ ad xx_netsRead xx_timesSent xx_passagesSent xx_astraySent xx_loopsSent pg_codes pg_length gr_nodes gr_links gr_start gr_end gr_linkBetween gr_wayLength gr_wayNext gr_wayLinks mk_width mk_drawn mk_seed mk_nextSeed mk_bits bn_links fl_foldBits fl_passages fl_astray fl_loops fl_steps fl_reached fl_matchingAside) → va_S A s.heap H locs → lv_has ls 7 [(3, .long x3_o1)] → W p l e rm_X5_withBundles s m args below meth c H locs 0 0 Q (F0 m 68 ls [])) → ∀ (H : Heap) (locs : List Loc) (ls : Array Slot), va_P D vwCl (wdX cI cJ ad xx_netsRead xx_timesSent xx_passagesSent xx_astraySent xx_loopsSent pg_codes pg_length gr_nodes gr_links gr_start gr_end gr_linkBetween gr_wayLength gr_wayNext gr_wayLinks mk_width mk_drawn mk_seed mk_nextSeed mk_bits bn_links fl_foldBits fl_passages fl_astray fl_loops fl_steps fl_reached fl_matchingAside) H → va_D A (wdX cI cJ ad xx_netsRead xx_timesSent xx_passagesSent xx_astraySent xx_loopsSent pg_codes pg_length gr_nodes gr_links gr_start gr_end gr_linkBetween gr_wayLength gr_wayNext gr_wayLinks mk_width mk_drawn mk_seed mk_nextSeed mk_bits bn_links fl_foldBits fl_passages fl_astray fl_loops fl_steps fl_reached fl_matchingAside) → va_S A s.heap H locs → lv_has ls 7 [(0, .ref (ad 0)), (3, .long x3_a5), (5, .int x5_a5)] → W p l e rm_X5_withBundles s m args below meth c H locs 0 0 Q (F0 m 5 ls []) := by
    intro n
    induction n with
    | zero =>
      intro x3_a5 x5_a5 x3_o1 h0
      exact oo_n h0
    | succ n ih =>
      intro x3_a5 x5_a5 x3_o1 hf kk H locs ls hP hD hS hl
      rw [f_X5_withBundles_L5_s] at hf
      refine lv_iload hx hb dX5_withBundles_5 (lv_at hl 2 rfl) ?_
      refine lv_iconst (v := (4 : Int32)) hx hb dX5_withBundles_7 (by decide) ?_
      refine lv_icmp_ge (tgt := 68) hx hb dX5_withBundles_8 (by decide) (fun c3 => ?_) (fun c3 => ?_)
      · have hf := oo_t hf c3
        cases hf
        exact kk _ _ _ hP hD hS (lv_sub hl [1] rfl)
      · have hf := oo_f hf c3
        refine lv_aload_n hx hb dX5_withBundles_11 rfl (lv_at hl 0 rfl) ?_
        refine va_get (ci := 5) (v := .ref (ad 12)) (C := RX5) (T := TX5) (N := 10) hx hb hts hin_X5 hown hK hP 0 rfl rfl 3 (by decide) fl_33 (fun _ h9 => h9) rfl dX5_withBundles_12 ?_
        refine lv_iload hx hb dX5_withBundles_15 (lv_at hl 2 rfl) ?_
        obtain ⟨r5, h4, hf⟩ := oo_b hf
        try dsimp only at hf
        have F : Fr D A _ (wdB cI cJ ad bn_links) (wdB cI cJ ad bn_links) (wdX cI cJ ad xx_netsRead xx_timesSent xx_passagesSent xx_astraySent xx_loopsSent pg_codes pg_length gr_nodes gr_links gr_start gr_end gr_linkBetween gr_wayLength gr_wayNext gr_wayLinks mk_width mk_drawn mk_seed mk_nextSeed mk_bits bn_links fl_foldBits fl_passages fl_astray fl_loops fl_steps fl_reached fl_matchingAside) := fr_X_B hP hD hS hA
        refine kZ F hS (rV (q := (RX0, TX0, 1)) (As := [.int x5_a5]) (rest := []) ⟨hx, hb, hml, hown, hts⟩ hK hN F (c_X0_isThere l D cI cJ ad _ (bn_links := bn_links) x5_a5 (o_res := r5) h4) (cwV 1 hts gX5_withBundles_X0_isThere rfl rfl rfl (by decide +kernel) ⟨Nat.le_of_ble_eq_true rfl, Nat.le_of_ble_eq_true rfl⟩) (ci := 0) rfl rfl rfl hl.1 rfl (Nat.le_of_ble_eq_true rfl) dX5_withBundles_17 ⟨Nat.zero_le _, Nat.zero_le _⟩) (fun H locs hb6 hP hD hS => ?_)
        obtain ⟨x3_7, hj9, hf⟩ := oo_b hf
        try dsimp only at hf
        have kj8 : ∀ (H : Heap) (locs : List Loc) (ls : Array Slot), va_P D vwCl (wdX cI cJ ad xx_netsRead xx_timesSent xx_passagesSent xx_astraySent xx_loopsSent pg_codes pg_length gr_nodes gr_links gr_start gr_end gr_linkBetween gr_wayLength gr_wayNext gr_wayLinks mk_width mk_drawn mk_seed mk_nextSeed mk_bits bn_links fl_foldBits fl_passages fl_astray fl_loops fl_steps fl_reached fl_matchingAside) H → va_D A (wdX cI cJ ad xx_netsRead xx_timesSent xx_passagesSent xx_astraySent xx_loopsSent pg_codes pg_length gr_nodes gr_links gr_start gr_end gr_linkBetween gr_wayLength gr_wayNext gr_wayLinks mk_width mk_drawn mk_seed mk_nextSeed mk_bits bn_links fl_foldBits fl_passages fl_astray fl_loops fl_steps fl_reached fl_matchingAside) → va_S A s.heap H locs → lv_has ls 7 [(0, .ref (ad 0)), (3, .long x3_7), (5, .int x5_a5)] → W p l e rm_X5_withBundles s m args below meth c H locs 0 0 Q (F0 m 62 ls []) := by
          intro H locs ls hP hD hS hl
          refine lv_iinc (v := (x5_a5 + (1 : Int32))) (lv' := [(5, .int (x5_a5 + (1 : Int32))), (0, .ref (ad 0)), (3, .long x3_7)]) hx hb dX5_withBundles_62 hl (k := 2) rfl rfl (by decide) rfl (fun ls hl => ?_)
          refine lv_goto (tgt := 5) hx hb dX5_withBundles_65 (by decide) ?_
          exact ih x3_7 (x5_a5 + (1 : Int32)) _ hf kk _ _ _ hP hD hS (lv_sub hl [1, 2, 0] rfl)
        clear hf
        have hf := hj9
        clear hj9
        refine lv_if_eq (tgt := 62) hx hb dX5_withBundles_20 (by decide) (fun c10 => ?_) (fun c10 => ?_)
        · have hf := oo_t hf c10
          cases hf
          exact kj8 _ _ _ hP hD hS (lv_sub hl [0, 1, 2] rfl)
        · have hf := oo_f hf c10
          refine lv_lload_n hx hb dX5_withBundles_23 rfl (lv_at hl 1 rfl) ?_
          refine lv_iload hx hb dX5_withBundles_24 (lv_at hl 2 rfl) ?_
          refine lv_i2l (v := (x5_a5).toInt64) hx hb dX5_withBundles_26 rfl ?_
          have F : Fr D A _ [] [] (wdX cI cJ ad xx_netsRead xx_timesSent xx_passagesSent xx_astraySent xx_loopsSent pg_codes pg_length gr_nodes gr_links gr_start gr_end gr_linkBetween gr_wayLength gr_wayNext gr_wayLinks mk_width mk_drawn mk_seed mk_nextSeed mk_bits bn_links fl_foldBits fl_passages fl_astray fl_loops fl_steps fl_reached fl_matchingAside) := fr_nil hP hD hS hA
          refine kL F hS (rS (As := [.long x3_a5, .long ((x5_a5).toInt64)]) (rest := []) ⟨hx, hb, hml, hown, hts⟩ hK hN F (c_X5_with l D cI cJ ad _  x3_a5 ((x5_a5).toInt64) (o_res := (f_X5_with x3_a5 ((x5_a5).toInt64))) rfl) (cwS 2 hts gX5_withBundles_X5_with rfl rfl rfl (by decide +kernel) ⟨Nat.le_of_ble_eq_true rfl, Nat.le_of_ble_eq_true rfl⟩) rfl hl.1 rfl (Nat.le_of_ble_eq_true rfl) dX5_withBundles_27 ⟨Nat.zero_le _, Nat.zero_le _⟩) (fun H locs hP hD hS => ?_)
          refine lv_lstore_n (lv' := [(3, .long (f_X5_with x3_a5 ((x5_a5).toInt64))), (0, .ref (ad 0)), (5, .int x5_a5)]) hx hb dX5_withBundles_30 rfl hl (by decide) rfl (fun ls hl => ?_)
          refine lv_iconst (v := (0 : Int32)) hx hb dX5_withBundles_31 (by decide) ?_
          refine lv_istore (lv' := [(6, .int (0 : Int32)), (3, .long (f_X5_with x3_a5 ((x5_a5).toInt64))), (0, .ref (ad 0)), (5, .int x5_a5)]) hx hb dX5_withBundles_32 hl (by decide) rfl (fun ls hl => ?_)
          have lp13 : ∀ (n : Nat) (x3_a34 : Int64) (x6_a34 : Int32) (x3_o12 : Int64), f_X5_withBundles_L34 mk_bits x5_a5 n x3_a34 x6_a34 = some x3_o12 → (∀ (H : Heap) (locs : List Loc) (ls : Array Slot), va_P D vwCl (wdX cI cJ ad xx_netsRead xx_timesSent xx_passagesSent xx_astraySent xx_loopsSent pg_codes pg_length gr_nodes gr_links gr_start gr_end gr_linkBetween gr_wayLength gr_wayNext gr_wayLinks mk_width mk_drawn mk_seed mk_nextSeed mk_bits bn_links fl_foldBits fl_passages fl_astray fl_loops fl_steps fl_reached fl_matchingAside) H → va_D A (wdX cI cJ ad xx_netsRead xx_timesSent xx_passagesSent xx_astraySent xx_loopsSent pg_codes pg_length gr_nodes gr_links gr_start gr_end gr_linkBetween gr_wayLength gr_wayNext gr_wayLinks mk_width mk_drawn mk_seed mk_nextSeed mk_bits bn_links fl_foldBits fl_passages fl_astray fl_loops fl_steps fl_reached fl_matchingAside) → va_S A s.heap H locs → lv_has ls 7 [(0, .ref (ad 0)), (3, .long x3_o12), (5, .int x5_a5)] → W p l e rm_X5_withBundles s m args below meth c H locs 0 0 Q (F0 m 62 ls [])) → ∀ (H : Heap) (locs : List Loc) (ls : Array Slot), va_P D vwCl (wdX cI cJ ad xx_netsRead xx_timesSent xx_passagesSent xx_astraySent xx_loopsSent pg_codes pg_length gr_nodes gr_links gr_start gr_end gr_linkBetween gr_wayLength gr_wayNext gr_wayLinks mk_width mk_drawn mk_seed mk_nextSeed mk_bits bn_links fl_foldBits fl_passages fl_astray fl_loops fl_steps fl_reached fl_matchingAside) H → va_D A (wdX cI cJ ad xx_netsRead xx_timesSent xx_passagesSent xx_astraySent xx_loopsSent pg_codes pg_length gr_nodes gr_links gr_start gr_end gr_linkBetween gr_wayLength gr_wayNext gr_wayLinks mk_width mk_drawn mk_seed mk_nextSeed mk_bits bn_links fl_foldBits fl_passages fl_astray fl_loops fl_steps fl_reached fl_matchingAside) → va_S A s.heap H locs → lv_has ls 7 [(0, .ref (ad 0)), (3, .long x3_a34), (5, .int x5_a5), (6, .int x6_a34)] → W p l e rm_X5_withBundles s m args below meth c H locs 0 0 Q (F0 m 34 ls []) := by
            intro n
            induction n with
            | zero =>
              intro x3_a34 x6_a34 x3_o12 h0
              exact oo_n h0
            | succ n ih =>
              intro x3_a34 x6_a34 x3_o12 hf kk H locs ls hP hD hS hl
              rw [f_X5_withBundles_L34_s] at hf
              refine lv_iload hx hb dX5_withBundles_34 (lv_at hl 3 rfl) ?_
              refine lv_iconst (v := (3 : Int32)) hx hb dX5_withBundles_36 (by decide) ?_
              refine lv_icmp_ge (tgt := 62) hx hb dX5_withBundles_37 (by decide) (fun c14 => ?_) (fun c14 => ?_)
              · have hf := oo_t hf c14
                cases hf
                exact kk _ _ _ hP hD hS (lv_sub hl [0, 1, 2] rfl)
              · have hf := oo_f hf c14
                refine lv_lload_n hx hb dX5_withBundles_40 rfl (lv_at hl 1 rfl) ?_
                refine lv_aload_n hx hb dX5_withBundles_41 rfl (lv_at hl 0 rfl) ?_
                refine va_get (ci := 5) (v := .ref (ad 10)) (C := RX5) (T := TX5) (N := 10) hx hb hts hin_X5 hown hK hP 0 rfl rfl 2 (by decide) fl_26 (fun _ h9 => h9) rfl dX5_withBundles_42 ?_
                refine lv_iload hx hb dX5_withBundles_45 (lv_at hl 2 rfl) ?_
                refine lv_iload hx hb dX5_withBundles_47 (lv_at hl 3 rfl) ?_
                obtain ⟨r16, h15, hf⟩ := oo_b hf
                try dsimp only at hf
                have F : Fr D A _ (wdK cI cJ ad mk_width mk_drawn mk_seed mk_nextSeed mk_bits) (wdK cI cJ ad mk_width mk_drawn mk_seed mk_nextSeed mk_bits) (wdX cI cJ ad xx_netsRead xx_timesSent xx_passagesSent xx_astraySent xx_loopsSent pg_codes pg_length gr_nodes gr_links gr_start gr_end gr_linkBetween gr_wayLength gr_wayNext gr_wayLinks mk_width mk_drawn mk_seed mk_nextSeed mk_bits bn_links fl_foldBits fl_passages fl_astray fl_loops fl_steps fl_reached fl_matchingAside) := fr_X_K hP hD hS hA
                refine kL F hS (rV (q := (RX3, TX3, 5)) (As := [.int x5_a5, .int x6_a34]) (rest := [.long x3_a34]) ⟨hx, hb, hml, hown, hts⟩ hK hN F (c_X3_ofBundle l D cI cJ ad _ (mk_width := mk_width) (mk_drawn := mk_drawn) (mk_seed := mk_seed) (mk_nextSeed := mk_nextSeed) (mk_bits := mk_bits) x5_a5 x6_a34 (o_res := r16) h15) (cwV 2 hts gX5_withBundles_X3_ofBundle rfl rfl rfl (by decide +kernel) ⟨Nat.le_of_ble_eq_true rfl, Nat.le_of_ble_eq_true rfl⟩) (ci := 3) rfl rfl rfl hl.1 rfl (Nat.le_of_ble_eq_true rfl) dX5_withBundles_49 ⟨Nat.zero_le _, Nat.zero_le _⟩) (fun H locs hP hD hS => ?_)
                have F : Fr D A _ [] [] (wdX cI cJ ad xx_netsRead xx_timesSent xx_passagesSent xx_astraySent xx_loopsSent pg_codes pg_length gr_nodes gr_links gr_start gr_end gr_linkBetween gr_wayLength gr_wayNext gr_wayLinks mk_width mk_drawn mk_seed mk_nextSeed mk_bits bn_links fl_foldBits fl_passages fl_astray fl_loops fl_steps fl_reached fl_matchingAside) := fr_nil hP hD hS hA
                refine kL F hS (rS (As := [.long x3_a34, .long r16]) (rest := []) ⟨hx, hb, hml, hown, hts⟩ hK hN F (c_X5_with l D cI cJ ad _  x3_a34 r16 (o_res := (f_X5_with x3_a34 r16)) rfl) (cwS 2 hts gX5_withBundles_X5_with rfl rfl rfl (by decide +kernel) ⟨Nat.le_of_ble_eq_true rfl, Nat.le_of_ble_eq_true rfl⟩) rfl hl.1 rfl (Nat.le_of_ble_eq_true rfl) dX5_withBundles_52 ⟨Nat.zero_le _, Nat.zero_le _⟩) (fun H locs hP hD hS => ?_)
                refine lv_lstore_n (lv' := [(3, .long (f_X5_with x3_a34 r16)), (0, .ref (ad 0)), (5, .int x5_a5), (6, .int x6_a34)]) hx hb dX5_withBundles_55 rfl hl (by decide) rfl (fun ls hl => ?_)
                refine lv_iinc (v := (x6_a34 + (1 : Int32))) (lv' := [(6, .int (x6_a34 + (1 : Int32))), (3, .long (f_X5_with x3_a34 r16)), (0, .ref (ad 0)), (5, .int x5_a5)]) hx hb dX5_withBundles_56 hl (k := 3) rfl rfl (by decide) rfl (fun ls hl => ?_)
                refine lv_goto (tgt := 34) hx hb dX5_withBundles_59 (by decide) ?_
                exact ih (f_X5_with x3_a34 r16) (x6_a34 + (1 : Int32)) _ hf kk _ _ _ hP hD hS (lv_sub hl [2, 1, 3, 0] rfl)
          obtain ⟨x3_o12, h19, hf⟩ := oo_b hf
          try dsimp only at hf
          refine lp13  100 (f_X5_with x3_a5 ((x5_a5).toInt64)) (0 : Int32) x3_o12 h19 (fun H locs ls hP hD hS hl => ?_) _ _ _ hP hD hS (lv_sub hl [2, 1, 3, 0] rfl)
          cases hf
          exact kj8 _ _ _ hP hD hS (lv_sub hl [0, 1, 2] rfl)
  obtain ⟨x3_o1, h20, hf⟩ := oo_b hf
  try dsimp only at hf
  refine lp2  100 x1 (0 : Int32) x3_o1 h20 (fun H locs ls hP hD hS hl => ?_) _ _ _ hP hD hS (lv_sub hl [2, 1, 0] rfl)
  refine lv_lload_n hx hb dX5_withBundles_68 rfl (lv_at hl 0 rfl) ?_
  cases hf
  exact hret _ _ _ _ dX5_withBundles_69 hP hD hS
