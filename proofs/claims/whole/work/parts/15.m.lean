def f_X5_fold (gr_nodes : Int32) (gr_links : Int32) (gr_wayLinks : Nat → Int32) (mk_bits : Nat → Int64) (bn_links : Nat → Int32) (x1 : Int32) (x2 : Int32) (x3 : Int32) (x4 : Int32) : Option (Int64) :=
  if (f_X2_hasNode gr_nodes x1) = (0 : Int32) then
    some (-1001 : Int64)
  else
    if (f_X2_hasNodes gr_nodes x2) = (0 : Int32) then
      some (-1002 : Int64)
    else
      if (f_X5_isVariant x3) = (0 : Int32) then
        some (-1002 : Int64)
      else
        Option.bind (f_X2_treeLinks gr_nodes gr_wayLinks x1 x2) fun r8 =>
        Option.bind (f_X5_foldedBits gr_links mk_bits bn_links r8 x3 x4) fun r11 =>
        some r11
abbrev rm_X5_fold : Room := { frames := 3, cells := 0, slots := 0, locals := 70 }
set_option maxHeartbeats 4000000 in
set_option maxRecDepth 100000 in
theorem c_X5_fold (l : Launch) (D : va_G) (cI cJ : ClassId) (ad : Nat → Nat) (sz : Nat) {xx_netsRead xx_timesSent xx_passagesSent xx_astraySent xx_loopsSent : Int32} {pg_codes : Nat → Int32} {pg_length gr_nodes gr_links : Int32} {gr_start gr_end gr_linkBetween gr_wayLength gr_wayNext gr_wayLinks : Nat → Int32} {mk_width mk_drawn mk_seed : Int32} {mk_nextSeed : Int64} {mk_bits : Nat → Int64} {bn_links : Nat → Int32} {fl_foldBits fl_passages fl_astray fl_loops fl_steps fl_reached fl_matchingAside : Int32} (x1 : Int32) (x2 : Int32) (x3 : Int32) (x4 : Int32) {o_res : Int64} (hf : f_X5_fold gr_nodes gr_links gr_wayLinks mk_bits bn_links x1 x2 x3 x4 = some o_res) : CtL l yX5_fold wsX5_fold rm_X5_fold D cI cJ [.ref (ad 0), .int x1, .int x2, .int x3, .int x4] (wdX cI cJ ad xx_netsRead xx_timesSent xx_passagesSent xx_astraySent xx_loopsSent pg_codes pg_length gr_nodes gr_links gr_start gr_end gr_linkBetween gr_wayLength gr_wayNext gr_wayLinks mk_width mk_drawn mk_seed mk_nextSeed mk_bits bn_links fl_foldBits fl_passages fl_astray fl_loops fl_steps fl_reached fl_matchingAside) sz o_res (wdX cI cJ ad xx_netsRead xx_timesSent xx_passagesSent xx_astraySent xx_loopsSent pg_codes pg_length gr_nodes gr_links gr_start gr_end gr_linkBetween gr_wayLength gr_wayNext gr_wayLinks mk_width mk_drawn mk_seed mk_nextSeed mk_bits bn_links fl_foldBits fl_passages fl_astray fl_loops fl_steps fl_reached fl_matchingAside) := by
  refine ctL_of (cc := cX5_fold) (maxL := 5) (by decide) rfl (Nat.le_of_ble_eq_true rfl) ?_
  intro p e s m below meth c Q A hx hb hml hown hts hK hN hA hret ls hl hP hD hS
  obtain ⟨args, hargs⟩ : ∃ a : Array Value, a = [.ref (ad 0), .int x1, .int x2, .int x3, .int x4].toArray := ⟨_, rfl⟩
  rw [← hargs] at hts hret ⊢
  have hown : s.vm.findClass RX5 = some m.cls := hown
  have hl : lv_has ls 5 [(0, .ref (ad 0)), (1, .int x1), (2, .int x2), (3, .int x3), (4, .int x4)] := hl
  have hin_X5 : ∀ w ∈ wsX50, w ∈ wsX5_fold := fun _ h => List.mem_cons_of_mem _ (List.mem_append_left _ (List.mem_append_left _ (List.mem_append_left _ (List.mem_append_right _ h))))
  have fl_19 : (Cond.fieldLink RX5 19 "FoldedWays" "graph" "LFoldedWays$Graph;").before args s = true := hat hts 1 rfl
  unfold f_X5_fold at hf
  refine lv_aload_n hx hb dX5_fold_0 rfl (lv_at hl 0 rfl) ?_
  refine va_get (ci := 5) (v := .ref (ad 3)) (C := RX5) (T := TX5) (N := 10) hx hb hts hin_X5 hown hK hP 0 rfl rfl 1 (by decide) fl_19 (fun _ h9 => h9) rfl dX5_fold_1 ?_
  refine lv_iload_n hx hb dX5_fold_4 rfl (lv_at hl 1 rfl) ?_
  have F : Fr D A _ (wdG cI cJ ad gr_nodes gr_links gr_start gr_end gr_linkBetween gr_wayLength gr_wayNext gr_wayLinks) (wdG cI cJ ad gr_nodes gr_links gr_start gr_end gr_linkBetween gr_wayLength gr_wayNext gr_wayLinks) (wdX cI cJ ad xx_netsRead xx_timesSent xx_passagesSent xx_astraySent xx_loopsSent pg_codes pg_length gr_nodes gr_links gr_start gr_end gr_linkBetween gr_wayLength gr_wayNext gr_wayLinks mk_width mk_drawn mk_seed mk_nextSeed mk_bits bn_links fl_foldBits fl_passages fl_astray fl_loops fl_steps fl_reached fl_matchingAside) := fr_X_G hP hD hS hA
  refine kZ F hS (rV (q := (RX2, TX2, 8)) (As := [.int x1]) (rest := []) ⟨hx, hb, hml, hown, hts⟩ hK hN F (c_X2_hasNode l D cI cJ ad _ (gr_nodes := gr_nodes) (gr_links := gr_links) (gr_start := gr_start) (gr_end := gr_end) (gr_linkBetween := gr_linkBetween) (gr_wayLength := gr_wayLength) (gr_wayNext := gr_wayNext) (gr_wayLinks := gr_wayLinks) x1 (o_res := (f_X2_hasNode gr_nodes x1)) rfl) (cwV 1 hts gX5_fold_X2_hasNode rfl rfl rfl (by decide +kernel) ⟨Nat.le_of_ble_eq_true rfl, Nat.le_of_ble_eq_true rfl⟩) (ci := 2) rfl rfl rfl hl.1 rfl (Nat.le_of_ble_eq_true rfl) dX5_fold_5 ⟨Nat.zero_le _, Nat.zero_le _⟩) (fun H locs hb1 hP hD hS => ?_)
  refine lv_if_ne (tgt := 15) hx hb dX5_fold_8 (by decide) (fun c2 => ?_) (fun c2 => ?_)
  · have hf := oo_f hf c2
    refine lv_aload_n hx hb dX5_fold_15 rfl (lv_at hl 0 rfl) ?_
    refine va_get (ci := 5) (v := .ref (ad 3)) (C := RX5) (T := TX5) (N := 10) hx hb hts hin_X5 hown hK hP 0 rfl rfl 1 (by decide) fl_19 (fun _ h9 => h9) rfl dX5_fold_16 ?_
    refine lv_iload_n hx hb dX5_fold_19 rfl (lv_at hl 2 rfl) ?_
    have F : Fr D A _ (wdG cI cJ ad gr_nodes gr_links gr_start gr_end gr_linkBetween gr_wayLength gr_wayNext gr_wayLinks) (wdG cI cJ ad gr_nodes gr_links gr_start gr_end gr_linkBetween gr_wayLength gr_wayNext gr_wayLinks) (wdX cI cJ ad xx_netsRead xx_timesSent xx_passagesSent xx_astraySent xx_loopsSent pg_codes pg_length gr_nodes gr_links gr_start gr_end gr_linkBetween gr_wayLength gr_wayNext gr_wayLinks mk_width mk_drawn mk_seed mk_nextSeed mk_bits bn_links fl_foldBits fl_passages fl_astray fl_loops fl_steps fl_reached fl_matchingAside) := fr_X_G hP hD hS hA
    refine kZ F hS (rV (q := (RX2, TX2, 8)) (As := [.int x2]) (rest := []) ⟨hx, hb, hml, hown, hts⟩ hK hN F (c_X2_hasNodes l D cI cJ ad _ (gr_nodes := gr_nodes) (gr_links := gr_links) (gr_start := gr_start) (gr_end := gr_end) (gr_linkBetween := gr_linkBetween) (gr_wayLength := gr_wayLength) (gr_wayNext := gr_wayNext) (gr_wayLinks := gr_wayLinks) x2 (o_res := (f_X2_hasNodes gr_nodes x2)) rfl) (cwV 1 hts gX5_fold_X2_hasNodes rfl rfl rfl (by decide +kernel) ⟨Nat.le_of_ble_eq_true rfl, Nat.le_of_ble_eq_true rfl⟩) (ci := 2) rfl rfl rfl hl.1 rfl (Nat.le_of_ble_eq_true rfl) dX5_fold_20 ⟨Nat.zero_le _, Nat.zero_le _⟩) (fun H locs hb3 hP hD hS => ?_)
    refine lv_if_eq (tgt := 33) hx hb dX5_fold_23 (by decide) (fun c4 => ?_) (fun c4 => ?_)
    · have hf := oo_t hf c4
      refine lv_ldc2 (v := (-1002 : Int64)) hx hb hown (hat hts 3 rfl) dX5_fold_33 ?_
      cases hf
      exact hret _ _ _ _ dX5_fold_36 hP hD hS
    · have hf := oo_f hf c4
      refine lv_iload_n hx hb dX5_fold_26 rfl (lv_at hl 3 rfl) ?_
      have F : Fr D A _ [] [] (wdX cI cJ ad xx_netsRead xx_timesSent xx_passagesSent xx_astraySent xx_loopsSent pg_codes pg_length gr_nodes gr_links gr_start gr_end gr_linkBetween gr_wayLength gr_wayNext gr_wayLinks mk_width mk_drawn mk_seed mk_nextSeed mk_bits bn_links fl_foldBits fl_passages fl_astray fl_loops fl_steps fl_reached fl_matchingAside) := fr_nil hP hD hS hA
      refine kZ F hS (rS (As := [.int x3]) (rest := []) ⟨hx, hb, hml, hown, hts⟩ hK hN F (c_X5_isVariant l D cI cJ ad _  x3 (o_res := (f_X5_isVariant x3)) rfl) (cwS 1 hts gX5_fold_X5_isVariant rfl rfl rfl (by decide +kernel) ⟨Nat.le_of_ble_eq_true rfl, Nat.le_of_ble_eq_true rfl⟩) rfl hl.1 rfl (Nat.le_of_ble_eq_true rfl) dX5_fold_27 ⟨Nat.zero_le _, Nat.zero_le _⟩) (fun H locs hb5 hP hD hS => ?_)
      refine lv_if_ne (tgt := 37) hx hb dX5_fold_30 (by decide) (fun c6 => ?_) (fun c6 => ?_)
      · have hf := oo_f hf c6
        refine lv_aload_n hx hb dX5_fold_37 rfl (lv_at hl 0 rfl) ?_
        refine lv_aload_n hx hb dX5_fold_38 rfl (lv_at hl 0 rfl) ?_
        refine va_get (ci := 5) (v := .ref (ad 3)) (C := RX5) (T := TX5) (N := 10) hx hb hts hin_X5 hown hK hP 0 rfl rfl 1 (by decide) fl_19 (fun _ h9 => h9) rfl dX5_fold_39 ?_
        refine lv_iload_n hx hb dX5_fold_42 rfl (lv_at hl 1 rfl) ?_
        refine lv_iload_n hx hb dX5_fold_43 rfl (lv_at hl 2 rfl) ?_
        obtain ⟨r8, h7, hf⟩ := oo_b hf
        try dsimp only at hf
        have F : Fr D A _ (wdG cI cJ ad gr_nodes gr_links gr_start gr_end gr_linkBetween gr_wayLength gr_wayNext gr_wayLinks) (wdG cI cJ ad gr_nodes gr_links gr_start gr_end gr_linkBetween gr_wayLength gr_wayNext gr_wayLinks) (wdX cI cJ ad xx_netsRead xx_timesSent xx_passagesSent xx_astraySent xx_loopsSent pg_codes pg_length gr_nodes gr_links gr_start gr_end gr_linkBetween gr_wayLength gr_wayNext gr_wayLinks mk_width mk_drawn mk_seed mk_nextSeed mk_bits bn_links fl_foldBits fl_passages fl_astray fl_loops fl_steps fl_reached fl_matchingAside) := fr_X_G hP hD hS hA
        refine kI F hS (rV (q := (RX2, TX2, 8)) (As := [.int x1, .int x2]) (rest := [.ref (ad 0)]) ⟨hx, hb, hml, hown, hts⟩ hK hN F (c_X2_treeLinks l D cI cJ ad _ (gr_nodes := gr_nodes) (gr_links := gr_links) (gr_start := gr_start) (gr_end := gr_end) (gr_linkBetween := gr_linkBetween) (gr_wayLength := gr_wayLength) (gr_wayNext := gr_wayNext) (gr_wayLinks := gr_wayLinks) x1 x2 (o_res := r8) h7) (cwV 2 hts gX5_fold_X2_treeLinks rfl rfl rfl (by decide +kernel) ⟨Nat.le_of_ble_eq_true rfl, Nat.le_of_ble_eq_true rfl⟩) (ci := 2) rfl rfl rfl hl.1 rfl (Nat.le_of_ble_eq_true rfl) dX5_fold_44 ⟨Nat.zero_le _, Nat.zero_le _⟩) (fun H locs hP hD hS => ?_)
        refine lv_iload_n hx hb dX5_fold_47 rfl (lv_at hl 3 rfl) ?_
        refine lv_iload hx hb dX5_fold_48 (lv_at hl 4 rfl) ?_
        obtain ⟨r11, h10, hf⟩ := oo_b hf
        try dsimp only at hf
        have F : Fr D A _ (wdX cI cJ ad xx_netsRead xx_timesSent xx_passagesSent xx_astraySent xx_loopsSent pg_codes pg_length gr_nodes gr_links gr_start gr_end gr_linkBetween gr_wayLength gr_wayNext gr_wayLinks mk_width mk_drawn mk_seed mk_nextSeed mk_bits bn_links fl_foldBits fl_passages fl_astray fl_loops fl_steps fl_reached fl_matchingAside) (wdX cI cJ ad xx_netsRead xx_timesSent xx_passagesSent xx_astraySent xx_loopsSent pg_codes pg_length gr_nodes gr_links gr_start gr_end gr_linkBetween gr_wayLength gr_wayNext gr_wayLinks mk_width mk_drawn mk_seed mk_nextSeed mk_bits bn_links fl_foldBits fl_passages fl_astray fl_loops fl_steps fl_reached fl_matchingAside) (wdX cI cJ ad xx_netsRead xx_timesSent xx_passagesSent xx_astraySent xx_loopsSent pg_codes pg_length gr_nodes gr_links gr_start gr_end gr_linkBetween gr_wayLength gr_wayNext gr_wayLinks mk_width mk_drawn mk_seed mk_nextSeed mk_bits bn_links fl_foldBits fl_passages fl_astray fl_loops fl_steps fl_reached fl_matchingAside) := fr_self hP hD hS hA
        refine kL F hS (rV (q := (RX5, TX5, 10)) (As := [.int r8, .int x3, .int x4]) (rest := []) ⟨hx, hb, hml, hown, hts⟩ hK hN F (c_X5_foldedBits l D cI cJ ad _ (xx_netsRead := xx_netsRead) (xx_timesSent := xx_timesSent) (xx_passagesSent := xx_passagesSent) (xx_astraySent := xx_astraySent) (xx_loopsSent := xx_loopsSent) (pg_codes := pg_codes) (pg_length := pg_length) (gr_nodes := gr_nodes) (gr_links := gr_links) (gr_start := gr_start) (gr_end := gr_end) (gr_linkBetween := gr_linkBetween) (gr_wayLength := gr_wayLength) (gr_wayNext := gr_wayNext) (gr_wayLinks := gr_wayLinks) (mk_width := mk_width) (mk_drawn := mk_drawn) (mk_seed := mk_seed) (mk_nextSeed := mk_nextSeed) (mk_bits := mk_bits) (bn_links := bn_links) (fl_foldBits := fl_foldBits) (fl_passages := fl_passages) (fl_astray := fl_astray) (fl_loops := fl_loops) (fl_steps := fl_steps) (fl_reached := fl_reached) (fl_matchingAside := fl_matchingAside) r8 x3 x4 (o_res := r11) h10) (cwV 3 hts gX5_fold_X5_foldedBits rfl rfl rfl (by decide +kernel) ⟨Nat.le_of_ble_eq_true rfl, Nat.le_of_ble_eq_true rfl⟩) (ci := 5) rfl rfl rfl hl.1 rfl (Nat.le_of_ble_eq_true rfl) dX5_fold_50 ⟨Nat.zero_le _, Nat.zero_le _⟩) (fun H locs hP hD hS => ?_)
        cases hf
        exact hret _ _ _ _ dX5_fold_53 hP hD hS
      · have hf := oo_t hf c6
        refine lv_ldc2 (v := (-1002 : Int64)) hx hb hown (hat hts 3 rfl) dX5_fold_33 ?_
        cases hf
        exact hret _ _ _ _ dX5_fold_36 hP hD hS
  · have hf := oo_t hf c2
    refine lv_ldc2 (v := (-1001 : Int64)) hx hb hown (hat hts 2 rfl) dX5_fold_11 ?_
    cases hf
    exact hret _ _ _ _ dX5_fold_14 hP hD hS
def f_X5_matchingLinks_L6 (gr_links : Int32) (mk_bits : Nat → Int64) (x1 : Int64) (x3 : Int32) : Nat → Int32 → Int32 → Option (Int32)
  | 0, _, _ => none
  | n + 1, x4_a6, x5_a6 =>
      if (f_X2_linkCount gr_links) ≤ x5_a6 then
        some x4_a6
      else
        Option.bind (f_X3_ofLink mk_bits x5_a6 x3) fun r6 =>
        f_X5_matchingLinks_L6 gr_links mk_bits x1 x3 n (if (lg_cmp (r6 &&& (x1 ^^^ (-1 : Int64))) (0 : Int64)) = (0 : Int32) then (x4_a6 ||| ((1 : Int32) <<< (x5_a6 &&& 31))) else x4_a6) (x5_a6 + (1 : Int32))
theorem f_X5_matchingLinks_L6_s (gr_links : Int32) (mk_bits : Nat → Int64) (x1 : Int64) (x3 : Int32) (n : Nat) (x4_a6 : Int32) (x5_a6 : Int32) : f_X5_matchingLinks_L6 gr_links mk_bits x1 x3 (n + 1) x4_a6 x5_a6 =
      (if (f_X2_linkCount gr_links) ≤ x5_a6 then
        some x4_a6
      else
        Option.bind (f_X3_ofLink mk_bits x5_a6 x3) fun r6 =>
        f_X5_matchingLinks_L6 gr_links mk_bits x1 x3 n (if (lg_cmp (r6 &&& (x1 ^^^ (-1 : Int64))) (0 : Int64)) = (0 : Int32) then (x4_a6 ||| ((1 : Int32) <<< (x5_a6 &&& 31))) else x4_a6) (x5_a6 + (1 : Int32))) := rfl
def f_X5_matchingLinks_L57 (mk_bits : Nat → Int64) (bn_links : Nat → Int32) (x1 : Int64) (x3 : Int32) : Nat → Int32 → Int32 → Option (Int32)
  | 0, _, _ => none
  | n + 1, x4_a57, x5_a57 =>
      if (4 : Int32) ≤ x5_a57 then
        some x4_a57
      else
        Option.bind (f_X3_ofBundle mk_bits x5_a57 x3) fun r16 =>
        Option.bind (α := Int32) (if (lg_cmp (r16 &&& (x1 ^^^ (-1 : Int64))) (0 : Int64)) = (0 : Int32) then
            Option.bind (f_X0_linksAt bn_links x5_a57) fun r23 =>
            some (x4_a57 ||| r23)
          else
            some x4_a57) fun x4_18 =>
        f_X5_matchingLinks_L57 mk_bits bn_links x1 x3 n x4_18 (x5_a57 + (1 : Int32))
theorem f_X5_matchingLinks_L57_s (mk_bits : Nat → Int64) (bn_links : Nat → Int32) (x1 : Int64) (x3 : Int32) (n : Nat) (x4_a57 : Int32) (x5_a57 : Int32) : f_X5_matchingLinks_L57 mk_bits bn_links x1 x3 (n + 1) x4_a57 x5_a57 =
      (if (4 : Int32) ≤ x5_a57 then
        some x4_a57
      else
        Option.bind (f_X3_ofBundle mk_bits x5_a57 x3) fun r16 =>
        Option.bind (α := Int32) (if (lg_cmp (r16 &&& (x1 ^^^ (-1 : Int64))) (0 : Int64)) = (0 : Int32) then
            Option.bind (f_X0_linksAt bn_links x5_a57) fun r23 =>
            some (x4_a57 ||| r23)
          else
            some x4_a57) fun x4_18 =>
        f_X5_matchingLinks_L57 mk_bits bn_links x1 x3 n x4_18 (x5_a57 + (1 : Int32))) := rfl
def f_X5_matchingLinks (gr_links : Int32) (mk_bits : Nat → Int64) (bn_links : Nat → Int32) (x1 : Int64) (x3 : Int32) : Option (Int32) :=
  Option.bind (f_X5_matchingLinks_L6 gr_links mk_bits x1 x3 100 (0 : Int32) (0 : Int32)) fun x4_o1 =>
  Option.bind (f_X5_matchingLinks_L57 mk_bits bn_links x1 x3 100 x4_o1 (0 : Int32)) fun x4_o12 =>
  some x4_o12
abbrev rm_X5_matchingLinks : Room := { frames := 2, cells := 0, slots := 0, locals := 42 }
set_option maxHeartbeats 4000000 in
set_option maxRecDepth 100000 in
theorem c_X5_matchingLinks (l : Launch) (D : va_G) (cI cJ : ClassId) (ad : Nat → Nat) (sz : Nat) {xx_netsRead xx_timesSent xx_passagesSent xx_astraySent xx_loopsSent : Int32} {pg_codes : Nat → Int32} {pg_length gr_nodes gr_links : Int32} {gr_start gr_end gr_linkBetween gr_wayLength gr_wayNext gr_wayLinks : Nat → Int32} {mk_width mk_drawn mk_seed : Int32} {mk_nextSeed : Int64} {mk_bits : Nat → Int64} {bn_links : Nat → Int32} {fl_foldBits fl_passages fl_astray fl_loops fl_steps fl_reached fl_matchingAside : Int32} (x1 : Int64) (x3 : Int32) {o_res : Int32} (hf : f_X5_matchingLinks gr_links mk_bits bn_links x1 x3 = some o_res) : CtI l yX5_matchingLinks wsX5_matchingLinks rm_X5_matchingLinks D cI cJ [.ref (ad 0), .long x1, .int x3] (wdX cI cJ ad xx_netsRead xx_timesSent xx_passagesSent xx_astraySent xx_loopsSent pg_codes pg_length gr_nodes gr_links gr_start gr_end gr_linkBetween gr_wayLength gr_wayNext gr_wayLinks mk_width mk_drawn mk_seed mk_nextSeed mk_bits bn_links fl_foldBits fl_passages fl_astray fl_loops fl_steps fl_reached fl_matchingAside) sz o_res (wdX cI cJ ad xx_netsRead xx_timesSent xx_passagesSent xx_astraySent xx_loopsSent pg_codes pg_length gr_nodes gr_links gr_start gr_end gr_linkBetween gr_wayLength gr_wayNext gr_wayLinks mk_width mk_drawn mk_seed mk_nextSeed mk_bits bn_links fl_foldBits fl_passages fl_astray fl_loops fl_steps fl_reached fl_matchingAside) := by
  refine ctI_of (cc := cX5_matchingLinks) (maxL := 6) (by decide) rfl (Nat.le_of_ble_eq_true rfl) ?_
  intro p e s m below meth c Q A hx hb hml hown hts hK hN hA hret ls hl hP hD hS
  obtain ⟨args, hargs⟩ : ∃ a : Array Value, a = [.ref (ad 0), .long x1, .int x3].toArray := ⟨_, rfl⟩
  rw [← hargs] at hts hret ⊢
  have hown : s.vm.findClass RX5 = some m.cls := hown
  have hl : lv_has ls 6 [(0, .ref (ad 0)), (1, .long x1), (3, .int x3)] := hl
  have hin_X5 : ∀ w ∈ wsX50, w ∈ wsX5_matchingLinks := fun _ h => List.mem_cons_of_mem _ (List.mem_append_left _ (List.mem_append_left _ (List.mem_append_left _ (List.mem_append_right _ h))))
  have fl_19 : (Cond.fieldLink RX5 19 "FoldedWays" "graph" "LFoldedWays$Graph;").before args s = true := hat hts 1 rfl
  have fl_26 : (Cond.fieldLink RX5 26 "FoldedWays" "marks" "LFoldedWays$Marks;").before args s = true := hat hts 2 rfl
  have fl_33 : (Cond.fieldLink RX5 33 "FoldedWays" "bundles" "LFoldedWays$Bundles;").before args s = true := hat hts 4 rfl
  unfold f_X5_matchingLinks at hf
  refine lv_iconst (v := (0 : Int32)) hx hb dX5_matchingLinks_0 (by decide) ?_
  refine lv_istore (lv' := [(4, .int (0 : Int32)), (0, .ref (ad 0)), (1, .long x1), (3, .int x3)]) hx hb dX5_matchingLinks_1 hl (by decide) rfl (fun ls hl => ?_)
  refine lv_iconst (v := (0 : Int32)) hx hb dX5_matchingLinks_3 (by decide) ?_
  refine lv_istore (lv' := [(5, .int (0 : Int32)), (4, .int (0 : Int32)), (0, .ref (ad 0)), (1, .long x1), (3, .int x3)]) hx hb dX5_matchingLinks_4 hl (by decide) rfl (fun ls hl => ?_)
  have lp2 : ∀ (n : Nat) (x4_a6 : Int32) (x5_a6 : Int32) (x4_o1 : Int32), f_X5_matchingLinks_L6 gr_links mk_bits x1 x3 n x4_a6 x5_a6 = some x4_o1 → (∀ (H : Heap) (locs : List Loc) (ls : Array Slot), va_P D vwCl (wdX cI cJ ad xx_netsRead xx_timesSent xx_passagesSent xx_astraySent xx_loopsSent pg_codes pg_length gr_nodes gr_links gr_start gr_end gr_linkBetween gr_wayLength gr_wayNext gr_wayLinks mk_width mk_drawn mk_seed mk_nextSeed mk_bits bn_links fl_foldBits fl_passages fl_astray fl_loops fl_steps fl_reached fl_matchingAside) H → va_D A (wdX cI cJ ad xx_netsRead xx_timesSent xx_passagesSent xx_astraySent xx_loopsSent pg_codes pg_length gr_nodes gr_links gr_start gr_end gr_linkBetween gr_wayLength gr_wayNext gr_wayLinks mk_width mk_drawn mk_seed mk_nextSeed mk_bits bn_links fl_foldBits fl_passages fl_astray fl_loops fl_steps fl_reached fl_matchingAside) → va_S A s.heap H locs → lv_has ls 6 [(0, .ref (ad 0)), (1, .long x1), (3, .int x3), (4, .int x4_o1)] → W p l e rm_X5_matchingLinks s m args below meth c H locs 0 0 Q (F0 m 54 ls [])) → ∀ (H : Heap) (locs : List Loc) (ls : Array Slot), va_P D vwCl (wdX cI cJ ad xx_netsRead xx_timesSent xx_passagesSent xx_astraySent xx_loopsSent pg_codes pg_length gr_nodes gr_links gr_start gr_end gr_linkBetween gr_wayLength gr_wayNext gr_wayLinks mk_width mk_drawn mk_seed mk_nextSeed mk_bits bn_links fl_foldBits fl_passages fl_astray fl_loops fl_steps fl_reached fl_matchingAside) H → va_D A (wdX cI cJ ad xx_netsRead xx_timesSent xx_passagesSent xx_astraySent xx_loopsSent pg_codes pg_length gr_nodes gr_links gr_start gr_end gr_linkBetween gr_wayLength gr_wayNext gr_wayLinks mk_width mk_drawn mk_seed mk_nextSeed mk_bits bn_links fl_foldBits fl_passages fl_astray fl_loops fl_steps fl_reached fl_matchingAside) → va_S A s.heap H locs → lv_has ls 6 [(0, .ref (ad 0)), (1, .long x1), (3, .int x3), (4, .int x4_a6), (5, .int x5_a6)] → W p l e rm_X5_matchingLinks s m args below meth c H locs 0 0 Q (F0 m 6 ls []) := by
    intro n
    induction n with
    | zero =>
      intro x4_a6 x5_a6 x4_o1 h0
      exact oo_n h0
    | succ n ih =>
      intro x4_a6 x5_a6 x4_o1 hf kk H locs ls hP hD hS hl
      rw [f_X5_matchingLinks_L6_s] at hf
      refine lv_iload hx hb dX5_matchingLinks_6 (lv_at hl 4 rfl) ?_
      refine lv_aload_n hx hb dX5_matchingLinks_8 rfl (lv_at hl 0 rfl) ?_
      refine va_get (ci := 5) (v := .ref (ad 3)) (C := RX5) (T := TX5) (N := 10) hx hb hts hin_X5 hown hK hP 0 rfl rfl 1 (by decide) fl_19 (fun _ h9 => h9) rfl dX5_matchingLinks_9 ?_
      have F : Fr D A _ (wdG cI cJ ad gr_nodes gr_links gr_start gr_end gr_linkBetween gr_wayLength gr_wayNext gr_wayLinks) (wdG cI cJ ad gr_nodes gr_links gr_start gr_end gr_linkBetween gr_wayLength gr_wayNext gr_wayLinks) (wdX cI cJ ad xx_netsRead xx_timesSent xx_passagesSent xx_astraySent xx_loopsSent pg_codes pg_length gr_nodes gr_links gr_start gr_end gr_linkBetween gr_wayLength gr_wayNext gr_wayLinks mk_width mk_drawn mk_seed mk_nextSeed mk_bits bn_links fl_foldBits fl_passages fl_astray fl_loops fl_steps fl_reached fl_matchingAside) := fr_X_G hP hD hS hA
      refine kI F hS (rV (q := (RX2, TX2, 8)) (As := []) (rest := [.int x5_a6]) ⟨hx, hb, hml, hown, hts⟩ hK hN F (c_X2_linkCount l D cI cJ ad _ (gr_nodes := gr_nodes) (gr_links := gr_links) (gr_start := gr_start) (gr_end := gr_end) (gr_linkBetween := gr_linkBetween) (gr_wayLength := gr_wayLength) (gr_wayNext := gr_wayNext) (gr_wayLinks := gr_wayLinks)  (o_res := (f_X2_linkCount gr_links)) rfl) (cwV 0 hts gX5_matchingLinks_X2_linkCount rfl rfl rfl (by decide +kernel) ⟨Nat.le_of_ble_eq_true rfl, Nat.le_of_ble_eq_true rfl⟩) (ci := 2) rfl rfl rfl hl.1 rfl (Nat.le_of_ble_eq_true rfl) dX5_matchingLinks_12 ⟨Nat.zero_le _, Nat.zero_le _⟩) (fun H locs hP hD hS => ?_)
      refine lv_icmp_ge (tgt := 54) hx hb dX5_matchingLinks_15 (by decide) (fun c4 => ?_) (fun c4 => ?_)
      · have hf := oo_t hf c4
        cases hf
        exact kk _ _ _ hP hD hS (lv_sub hl [0, 1, 2, 3] rfl)
      · have hf := oo_f hf c4
        refine lv_aload_n hx hb dX5_matchingLinks_18 rfl (lv_at hl 0 rfl) ?_
        refine va_get (ci := 5) (v := .ref (ad 10)) (C := RX5) (T := TX5) (N := 10) hx hb hts hin_X5 hown hK hP 0 rfl rfl 2 (by decide) fl_26 (fun _ h9 => h9) rfl dX5_matchingLinks_19 ?_
        refine lv_iload hx hb dX5_matchingLinks_22 (lv_at hl 4 rfl) ?_
        refine lv_iload_n hx hb dX5_matchingLinks_24 rfl (lv_at hl 2 rfl) ?_
        obtain ⟨r6, h5, hf⟩ := oo_b hf
        try dsimp only at hf
        have F : Fr D A _ (wdK cI cJ ad mk_width mk_drawn mk_seed mk_nextSeed mk_bits) (wdK cI cJ ad mk_width mk_drawn mk_seed mk_nextSeed mk_bits) (wdX cI cJ ad xx_netsRead xx_timesSent xx_passagesSent xx_astraySent xx_loopsSent pg_codes pg_length gr_nodes gr_links gr_start gr_end gr_linkBetween gr_wayLength gr_wayNext gr_wayLinks mk_width mk_drawn mk_seed mk_nextSeed mk_bits bn_links fl_foldBits fl_passages fl_astray fl_loops fl_steps fl_reached fl_matchingAside) := fr_X_K hP hD hS hA
        refine kL F hS (rV (q := (RX3, TX3, 5)) (As := [.int x5_a6, .int x3]) (rest := []) ⟨hx, hb, hml, hown, hts⟩ hK hN F (c_X3_ofLink l D cI cJ ad _ (mk_width := mk_width) (mk_drawn := mk_drawn) (mk_seed := mk_seed) (mk_nextSeed := mk_nextSeed) (mk_bits := mk_bits) x5_a6 x3 (o_res := r6) h5) (cwV 2 hts gX5_matchingLinks_X3_ofLink rfl rfl rfl (by decide +kernel) ⟨Nat.le_of_ble_eq_true rfl, Nat.le_of_ble_eq_true rfl⟩) (ci := 3) rfl rfl rfl hl.1 rfl (Nat.le_of_ble_eq_true rfl) dX5_matchingLinks_25 ⟨Nat.zero_le _, Nat.zero_le _⟩) (fun H locs hP hD hS => ?_)
        refine lv_lload_n hx hb dX5_matchingLinks_28 rfl (lv_at hl 1 rfl) ?_
        refine lv_ldc2 (v := (-1 : Int64)) hx hb hown (hat hts 3 rfl) dX5_matchingLinks_29 ?_
        refine lv_lxor hx hb dX5_matchingLinks_32 ?_
        refine lv_land hx hb dX5_matchingLinks_33 ?_
        refine lv_lconst (v := (0 : Int64)) hx hb dX5_matchingLinks_34 (by decide) ?_
        refine W.lcmp hx hb dX5_matchingLinks_35 ?_
        have kj9 : ∀ (x4_8 : Int32), x4_8 = (if (lg_cmp (r6 &&& (x1 ^^^ (-1 : Int64))) (0 : Int64)) = (0 : Int32) then (x4_a6 ||| ((1 : Int32) <<< (x5_a6 &&& 31))) else x4_a6) → ∀ (H : Heap) (locs : List Loc) (ls : Array Slot), va_P D vwCl (wdX cI cJ ad xx_netsRead xx_timesSent xx_passagesSent xx_astraySent xx_loopsSent pg_codes pg_length gr_nodes gr_links gr_start gr_end gr_linkBetween gr_wayLength gr_wayNext gr_wayLinks mk_width mk_drawn mk_seed mk_nextSeed mk_bits bn_links fl_foldBits fl_passages fl_astray fl_loops fl_steps fl_reached fl_matchingAside) H → va_D A (wdX cI cJ ad xx_netsRead xx_timesSent xx_passagesSent xx_astraySent xx_loopsSent pg_codes pg_length gr_nodes gr_links gr_start gr_end gr_linkBetween gr_wayLength gr_wayNext gr_wayLinks mk_width mk_drawn mk_seed mk_nextSeed mk_bits bn_links fl_foldBits fl_passages fl_astray fl_loops fl_steps fl_reached fl_matchingAside) → va_S A s.heap H locs → lv_has ls 6 [(0, .ref (ad 0)), (1, .long x1), (3, .int x3), (4, .int x4_8), (5, .int x5_a6)] → W p l e rm_X5_matchingLinks s m args below meth c H locs 0 0 Q (F0 m 48 ls []) := by
          intro x4_8 ex4_8
          subst ex4_8
          intro H locs ls hP hD hS hl
          refine lv_iinc (v := (x5_a6 + (1 : Int32))) (lv' := [(5, .int (x5_a6 + (1 : Int32))), (0, .ref (ad 0)), (1, .long x1), (3, .int x3), (4, .int (if (lg_cmp (r6 &&& (x1 ^^^ (-1 : Int64))) (0 : Int64)) = (0 : Int32) then (x4_a6 ||| ((1 : Int32) <<< (x5_a6 &&& 31))) else x4_a6))]) hx hb dX5_matchingLinks_48 hl (k := 4) rfl rfl (by decide) rfl (fun ls hl => ?_)
          refine lv_goto (tgt := 6) hx hb dX5_matchingLinks_51 (by decide) ?_
          exact ih (if (lg_cmp (r6 &&& (x1 ^^^ (-1 : Int64))) (0 : Int64)) = (0 : Int32) then (x4_a6 ||| ((1 : Int32) <<< (x5_a6 &&& 31))) else x4_a6) (x5_a6 + (1 : Int32)) _ hf kk _ _ _ hP hD hS (lv_sub hl [1, 2, 3, 4, 0] rfl)
        refine lv_if_ne (tgt := 48) hx hb dX5_matchingLinks_36 (by decide) (fun c10 => ?_) (fun c10 => ?_)
        · exact kj9 x4_a6 (if_neg c10).symm _ _ _ hP hD hS (lv_sub hl [0, 1, 2, 3, 4] rfl)
        · refine lv_iload hx hb dX5_matchingLinks_39 (lv_at hl 3 rfl) ?_
          refine lv_iconst (v := (1 : Int32)) hx hb dX5_matchingLinks_41 (by decide) ?_
          refine lv_iload hx hb dX5_matchingLinks_42 (lv_at hl 4 rfl) ?_
          refine lv_ishl hx hb dX5_matchingLinks_44 ?_
          refine lv_ior hx hb dX5_matchingLinks_45 ?_
          refine lv_istore (lv' := [(4, .int (x4_a6 ||| ((1 : Int32) <<< (x5_a6 &&& 31)))), (0, .ref (ad 0)), (1, .long x1), (3, .int x3), (5, .int x5_a6)]) hx hb dX5_matchingLinks_46 hl (by decide) rfl (fun ls hl => ?_)
          exact kj9 (x4_a6 ||| ((1 : Int32) <<< (x5_a6 &&& 31))) (if_pos c10).symm _ _ _ hP hD hS (lv_sub hl [1, 2, 3, 0, 4] rfl)
  obtain ⟨x4_o1, h11, hf⟩ := oo_b hf
  try dsimp only at hf
  refine lp2  100 (0 : Int32) (0 : Int32) x4_o1 h11 (fun H locs ls hP hD hS hl => ?_) _ _ _ hP hD hS (lv_sub hl [2, 3, 4, 1, 0] rfl)
  refine lv_iconst (v := (0 : Int32)) hx hb dX5_matchingLinks_54 (by decide) ?_
  refine lv_istore (lv' := [(5, .int (0 : Int32)), (0, .ref (ad 0)), (1, .long x1), (3, .int x3), (4, .int x4_o1)]) hx hb dX5_matchingLinks_55 hl (by decide) rfl (fun ls hl => ?_)
  have lp13 : ∀ (n : Nat) (x4_a57 : Int32) (x5_a57 : Int32) (x4_o12 : Int32), f_X5_matchingLinks_L57 mk_bits bn_links x1 x3 n x4_a57 x5_a57 = some x4_o12 → (∀ (H : Heap) (locs : List Loc) (ls : Array Slot), va_P D vwCl (wdX cI cJ ad xx_netsRead xx_timesSent xx_passagesSent xx_astraySent xx_loopsSent pg_codes pg_length gr_nodes gr_links gr_start gr_end gr_linkBetween gr_wayLength gr_wayNext gr_wayLinks mk_width mk_drawn mk_seed mk_nextSeed mk_bits bn_links fl_foldBits fl_passages fl_astray fl_loops fl_steps fl_reached fl_matchingAside) H → va_D A (wdX cI cJ ad xx_netsRead xx_timesSent xx_passagesSent xx_astraySent xx_loopsSent pg_codes pg_length gr_nodes gr_links gr_start gr_end gr_linkBetween gr_wayLength gr_wayNext gr_wayLinks mk_width mk_drawn mk_seed mk_nextSeed mk_bits bn_links fl_foldBits fl_passages fl_astray fl_loops fl_steps fl_reached fl_matchingAside) → va_S A s.heap H locs → lv_has ls 6 [(4, .int x4_o12)] → W p l e rm_X5_matchingLinks s m args below meth c H locs 0 0 Q (F0 m 104 ls [])) → ∀ (H : Heap) (locs : List Loc) (ls : Array Slot), va_P D vwCl (wdX cI cJ ad xx_netsRead xx_timesSent xx_passagesSent xx_astraySent xx_loopsSent pg_codes pg_length gr_nodes gr_links gr_start gr_end gr_linkBetween gr_wayLength gr_wayNext gr_wayLinks mk_width mk_drawn mk_seed mk_nextSeed mk_bits bn_links fl_foldBits fl_passages fl_astray fl_loops fl_steps fl_reached fl_matchingAside) H → va_D A (wdX cI cJ ad xx_netsRead xx_timesSent xx_passagesSent xx_astraySent xx_loopsSent pg_codes pg_length gr_nodes gr_links gr_start gr_end gr_linkBetween gr_wayLength gr_wayNext gr_wayLinks mk_width mk_drawn mk_seed mk_nextSeed mk_bits bn_links fl_foldBits fl_passages fl_astray fl_loops fl_steps fl_reached fl_matchingAside) → va_S A s.heap H locs → lv_has ls 6 [(0, .ref (ad 0)), (1, .long x1), (3, .int x3), (4, .int x4_a57), (5, .int x5_a57)] → W p l e rm_X5_matchingLinks s m args below meth c H locs 0 0 Q (F0 m 57 ls []) := by
    intro n
    induction n with
    | zero =>
      intro x4_a57 x5_a57 x4_o12 h0
      exact oo_n h0
    | succ n ih =>
      intro x4_a57 x5_a57 x4_o12 hf kk H locs ls hP hD hS hl
      rw [f_X5_matchingLinks_L57_s] at hf
      refine lv_iload hx hb dX5_matchingLinks_57 (lv_at hl 4 rfl) ?_
      refine lv_iconst (v := (4 : Int32)) hx hb dX5_matchingLinks_59 (by decide) ?_
      refine lv_icmp_ge (tgt := 104) hx hb dX5_matchingLinks_60 (by decide) (fun c14 => ?_) (fun c14 => ?_)
      · have hf := oo_t hf c14
        cases hf
        exact kk _ _ _ hP hD hS (lv_sub hl [3] rfl)
      · have hf := oo_f hf c14
        refine lv_aload_n hx hb dX5_matchingLinks_63 rfl (lv_at hl 0 rfl) ?_
        refine va_get (ci := 5) (v := .ref (ad 10)) (C := RX5) (T := TX5) (N := 10) hx hb hts hin_X5 hown hK hP 0 rfl rfl 2 (by decide) fl_26 (fun _ h9 => h9) rfl dX5_matchingLinks_64 ?_
        refine lv_iload hx hb dX5_matchingLinks_67 (lv_at hl 4 rfl) ?_
        refine lv_iload_n hx hb dX5_matchingLinks_69 rfl (lv_at hl 2 rfl) ?_
        obtain ⟨r16, h15, hf⟩ := oo_b hf
        try dsimp only at hf
        have F : Fr D A _ (wdK cI cJ ad mk_width mk_drawn mk_seed mk_nextSeed mk_bits) (wdK cI cJ ad mk_width mk_drawn mk_seed mk_nextSeed mk_bits) (wdX cI cJ ad xx_netsRead xx_timesSent xx_passagesSent xx_astraySent xx_loopsSent pg_codes pg_length gr_nodes gr_links gr_start gr_end gr_linkBetween gr_wayLength gr_wayNext gr_wayLinks mk_width mk_drawn mk_seed mk_nextSeed mk_bits bn_links fl_foldBits fl_passages fl_astray fl_loops fl_steps fl_reached fl_matchingAside) := fr_X_K hP hD hS hA
        refine kL F hS (rV (q := (RX3, TX3, 5)) (As := [.int x5_a57, .int x3]) (rest := []) ⟨hx, hb, hml, hown, hts⟩ hK hN F (c_X3_ofBundle l D cI cJ ad _ (mk_width := mk_width) (mk_drawn := mk_drawn) (mk_seed := mk_seed) (mk_nextSeed := mk_nextSeed) (mk_bits := mk_bits) x5_a57 x3 (o_res := r16) h15) (cwV 2 hts gX5_matchingLinks_X3_ofBundle rfl rfl rfl (by decide +kernel) ⟨Nat.le_of_ble_eq_true rfl, Nat.le_of_ble_eq_true rfl⟩) (ci := 3) rfl rfl rfl hl.1 rfl (Nat.le_of_ble_eq_true rfl) dX5_matchingLinks_70 ⟨Nat.zero_le _, Nat.zero_le _⟩) (fun H locs hP hD hS => ?_)
        refine lv_lload_n hx hb dX5_matchingLinks_73 rfl (lv_at hl 1 rfl) ?_
        refine lv_ldc2 (v := (-1 : Int64)) hx hb hown (hat hts 3 rfl) dX5_matchingLinks_74 ?_
        refine lv_lxor hx hb dX5_matchingLinks_77 ?_
        refine lv_land hx hb dX5_matchingLinks_78 ?_
        refine lv_lconst (v := (0 : Int64)) hx hb dX5_matchingLinks_79 (by decide) ?_
        refine W.lcmp hx hb dX5_matchingLinks_80 ?_
        obtain ⟨x4_18, hj20, hf⟩ := oo_b hf
        try dsimp only at hf
        have kj19 : ∀ (H : Heap) (locs : List Loc) (ls : Array Slot), va_P D vwCl (wdX cI cJ ad xx_netsRead xx_timesSent xx_passagesSent xx_astraySent xx_loopsSent pg_codes pg_length gr_nodes gr_links gr_start gr_end gr_linkBetween gr_wayLength gr_wayNext gr_wayLinks mk_width mk_drawn mk_seed mk_nextSeed mk_bits bn_links fl_foldBits fl_passages fl_astray fl_loops fl_steps fl_reached fl_matchingAside) H → va_D A (wdX cI cJ ad xx_netsRead xx_timesSent xx_passagesSent xx_astraySent xx_loopsSent pg_codes pg_length gr_nodes gr_links gr_start gr_end gr_linkBetween gr_wayLength gr_wayNext gr_wayLinks mk_width mk_drawn mk_seed mk_nextSeed mk_bits bn_links fl_foldBits fl_passages fl_astray fl_loops fl_steps fl_reached fl_matchingAside) → va_S A s.heap H locs → lv_has ls 6 [(0, .ref (ad 0)), (1, .long x1), (3, .int x3), (4, .int x4_18), (5, .int x5_a57)] → W p l e rm_X5_matchingLinks s m args below meth c H locs 0 0 Q (F0 m 98 ls []) := by
          intro H locs ls hP hD hS hl
          refine lv_iinc (v := (x5_a57 + (1 : Int32))) (lv' := [(5, .int (x5_a57 + (1 : Int32))), (0, .ref (ad 0)), (1, .long x1), (3, .int x3), (4, .int x4_18)]) hx hb dX5_matchingLinks_98 hl (k := 4) rfl rfl (by decide) rfl (fun ls hl => ?_)
          refine lv_goto (tgt := 57) hx hb dX5_matchingLinks_101 (by decide) ?_
          exact ih x4_18 (x5_a57 + (1 : Int32)) _ hf kk _ _ _ hP hD hS (lv_sub hl [1, 2, 3, 4, 0] rfl)
        clear hf
        have hf := hj20
        clear hj20
        refine lv_if_ne (tgt := 98) hx hb dX5_matchingLinks_81 (by decide) (fun c21 => ?_) (fun c21 => ?_)
        · have hf := oo_f hf c21
          cases hf
          exact kj19 _ _ _ hP hD hS (lv_sub hl [0, 1, 2, 3, 4] rfl)
        · have hf := oo_t hf c21
          refine lv_iload hx hb dX5_matchingLinks_84 (lv_at hl 3 rfl) ?_
          refine lv_aload_n hx hb dX5_matchingLinks_86 rfl (lv_at hl 0 rfl) ?_
          refine va_get (ci := 5) (v := .ref (ad 12)) (C := RX5) (T := TX5) (N := 10) hx hb hts hin_X5 hown hK hP 0 rfl rfl 3 (by decide) fl_33 (fun _ h9 => h9) rfl dX5_matchingLinks_87 ?_
          refine lv_iload hx hb dX5_matchingLinks_90 (lv_at hl 4 rfl) ?_
          obtain ⟨r23, h22, hf⟩ := oo_b hf
          try dsimp only at hf
          have F : Fr D A _ (wdB cI cJ ad bn_links) (wdB cI cJ ad bn_links) (wdX cI cJ ad xx_netsRead xx_timesSent xx_passagesSent xx_astraySent xx_loopsSent pg_codes pg_length gr_nodes gr_links gr_start gr_end gr_linkBetween gr_wayLength gr_wayNext gr_wayLinks mk_width mk_drawn mk_seed mk_nextSeed mk_bits bn_links fl_foldBits fl_passages fl_astray fl_loops fl_steps fl_reached fl_matchingAside) := fr_X_B hP hD hS hA
          refine kI F hS (rV (q := (RX0, TX0, 1)) (As := [.int x5_a57]) (rest := [.int x4_a57]) ⟨hx, hb, hml, hown, hts⟩ hK hN F (c_X0_linksAt l D cI cJ ad _ (bn_links := bn_links) x5_a57 (o_res := r23) h22) (cwV 1 hts gX5_matchingLinks_X0_linksAt rfl rfl rfl (by decide +kernel) ⟨Nat.le_of_ble_eq_true rfl, Nat.le_of_ble_eq_true rfl⟩) (ci := 0) rfl rfl rfl hl.1 rfl (Nat.le_of_ble_eq_true rfl) dX5_matchingLinks_92 ⟨Nat.zero_le _, Nat.zero_le _⟩) (fun H locs hP hD hS => ?_)
          refine lv_ior hx hb dX5_matchingLinks_95 ?_
          refine lv_istore (lv' := [(4, .int (x4_a57 ||| r23)), (0, .ref (ad 0)), (1, .long x1), (3, .int x3), (5, .int x5_a57)]) hx hb dX5_matchingLinks_96 hl (by decide) rfl (fun ls hl => ?_)
          cases hf
          exact kj19 _ _ _ hP hD hS (lv_sub hl [1, 2, 3, 0, 4] rfl)
  obtain ⟨x4_o12, h25, hf⟩ := oo_b hf
  try dsimp only at hf
  refine lp13  100 x4_o1 (0 : Int32) x4_o12 h25 (fun H locs ls hP hD hS hl => ?_) _ _ _ hP hD hS (lv_sub hl [1, 2, 3, 4, 0] rfl)
  refine lv_iload hx hb dX5_matchingLinks_104 (lv_at hl 0 rfl) ?_
  cases hf
  exact hret _ _ _ _ dX5_matchingLinks_106 hP hD hS
def f_J13_bitCount_95d88_v0 (x0 : Int64) : Int64 := (((x0 - (((x0).toUInt64 >>> (((1 : Int32)).toInt64.toUInt64 &&& Int64.toUInt64 63)).toInt64 &&& (6148914691236517205 : Int64))) &&& (3689348814741910323 : Int64)) + ((((x0 - (((x0).toUInt64 >>> (((1 : Int32)).toInt64.toUInt64 &&& Int64.toUInt64 63)).toInt64 &&& (6148914691236517205 : Int64)))).toUInt64 >>> (((2 : Int32)).toInt64.toUInt64 &&& Int64.toUInt64 63)).toInt64 &&& (3689348814741910323 : Int64)))
def f_J13_bitCount_95d88_v1 (x0 : Int64) : Int64 := ((((f_J13_bitCount_95d88_v0 x0) + (((f_J13_bitCount_95d88_v0 x0)).toUInt64 >>> (((4 : Int32)).toInt64.toUInt64 &&& Int64.toUInt64 63)).toInt64) &&& (1085102592571150095 : Int64)) + (((((f_J13_bitCount_95d88_v0 x0) + (((f_J13_bitCount_95d88_v0 x0)).toUInt64 >>> (((4 : Int32)).toInt64.toUInt64 &&& Int64.toUInt64 63)).toInt64) &&& (1085102592571150095 : Int64))).toUInt64 >>> (((8 : Int32)).toInt64.toUInt64 &&& Int64.toUInt64 63)).toInt64)
def f_J13_bitCount_95d88 (x0 : Int64) : Int32 :=
  (((((f_J13_bitCount_95d88_v1 x0) + (((f_J13_bitCount_95d88_v1 x0)).toUInt64 >>> (((16 : Int32)).toInt64.toUInt64 &&& Int64.toUInt64 63)).toInt64) + ((((f_J13_bitCount_95d88_v1 x0) + (((f_J13_bitCount_95d88_v1 x0)).toUInt64 >>> (((16 : Int32)).toInt64.toUInt64 &&& Int64.toUInt64 63)).toInt64)).toUInt64 >>> (((32 : Int32)).toInt64.toUInt64 &&& Int64.toUInt64 63)).toInt64)).toInt32 &&& (127 : Int32))
abbrev rm_J13_bitCount_95d88 : Room := { frames := 0, cells := 0, slots := 0, locals := 0 }
set_option maxHeartbeats 4000000 in
set_option maxRecDepth 100000 in
theorem c_J13_bitCount_95d88 (l : Launch) (D : va_G) (cI cJ : ClassId) (ad : Nat → Nat) (sz : Nat)  (x0 : Int64) {o_res : Int32} (hf : f_J13_bitCount_95d88 x0 = o_res) : CtI l yJ13_bitCount_95d88 wsJ13_bitCount_95d88 rm_J13_bitCount_95d88 D cI cJ [.long x0] [] sz o_res [] := by
  refine ctI_of (cc := cJ13_bitCount_95d88) (maxL := 2) (by decide) rfl (Nat.le_of_ble_eq_true rfl) ?_
  intro p e s m below meth c Q A hx hb hml hown hts hK hN hA hret ls hl hP hD hS
  obtain ⟨args, hargs⟩ : ∃ a : Array Value, a = [.long x0].toArray := ⟨_, rfl⟩
  rw [← hargs] at hts hret ⊢
  have hown : s.vm.findClass RJ13 = some m.cls := hown
  have hl : lv_has ls 2 [(0, .long x0)] := hl
  unfold f_J13_bitCount_95d88 at hf
  refine lv_lload_n hx hb dJ13_bitCount_95d88_0 rfl (lv_at hl 0 rfl) ?_
  refine lv_lload_n hx hb dJ13_bitCount_95d88_1 rfl (lv_at hl 0 rfl) ?_
  refine lv_iconst (v := (1 : Int32)) hx hb dJ13_bitCount_95d88_2 (by decide) ?_
  refine lv_lushr (v := ((x0).toUInt64 >>> (((1 : Int32)).toInt64.toUInt64 &&& Int64.toUInt64 63)).toInt64) hx hb dJ13_bitCount_95d88_3 rfl ?_
  refine lv_ldc2 (v := (6148914691236517205 : Int64)) hx hb hown (hat hts 1 rfl) dJ13_bitCount_95d88_4 ?_
  refine lv_land hx hb dJ13_bitCount_95d88_7 ?_
  refine lv_lsub hx hb dJ13_bitCount_95d88_8 ?_
  refine lv_lstore_n (lv' := [(0, .long (x0 - (((x0).toUInt64 >>> (((1 : Int32)).toInt64.toUInt64 &&& Int64.toUInt64 63)).toInt64 &&& (6148914691236517205 : Int64))))]) hx hb dJ13_bitCount_95d88_9 rfl hl (by decide) rfl (fun ls hl => ?_)
  refine lv_lload_n hx hb dJ13_bitCount_95d88_10 rfl (lv_at hl 0 rfl) ?_
  refine lv_ldc2 (v := (3689348814741910323 : Int64)) hx hb hown (hat hts 2 rfl) dJ13_bitCount_95d88_11 ?_
  refine lv_land hx hb dJ13_bitCount_95d88_14 ?_
  refine lv_lload_n hx hb dJ13_bitCount_95d88_15 rfl (lv_at hl 0 rfl) ?_
  refine lv_iconst (v := (2 : Int32)) hx hb dJ13_bitCount_95d88_16 (by decide) ?_
  refine lv_lushr (v := (((x0 - (((x0).toUInt64 >>> (((1 : Int32)).toInt64.toUInt64 &&& Int64.toUInt64 63)).toInt64 &&& (6148914691236517205 : Int64)))).toUInt64 >>> (((2 : Int32)).toInt64.toUInt64 &&& Int64.toUInt64 63)).toInt64) hx hb dJ13_bitCount_95d88_17 rfl ?_
  refine lv_ldc2 (v := (3689348814741910323 : Int64)) hx hb hown (hat hts 2 rfl) dJ13_bitCount_95d88_18 ?_
  refine lv_land hx hb dJ13_bitCount_95d88_21 ?_
  refine lv_ladd hx hb dJ13_bitCount_95d88_22 ?_
  refine lv_lstore_n (lv' := [(0, .long (f_J13_bitCount_95d88_v0 x0))]) hx hb dJ13_bitCount_95d88_23 rfl hl (by decide) rfl (fun ls hl => ?_)
  refine lv_lload_n hx hb dJ13_bitCount_95d88_24 rfl (lv_at hl 0 rfl) ?_
  refine lv_lload_n hx hb dJ13_bitCount_95d88_25 rfl (lv_at hl 0 rfl) ?_
  refine lv_iconst (v := (4 : Int32)) hx hb dJ13_bitCount_95d88_26 (by decide) ?_
  refine lv_lushr (v := (((f_J13_bitCount_95d88_v0 x0)).toUInt64 >>> (((4 : Int32)).toInt64.toUInt64 &&& Int64.toUInt64 63)).toInt64) hx hb dJ13_bitCount_95d88_27 rfl ?_
  refine lv_ladd hx hb dJ13_bitCount_95d88_28 ?_
  refine lv_ldc2 (v := (1085102592571150095 : Int64)) hx hb hown (hat hts 3 rfl) dJ13_bitCount_95d88_29 ?_
  refine lv_land hx hb dJ13_bitCount_95d88_32 ?_
  refine lv_lstore_n (lv' := [(0, .long (((f_J13_bitCount_95d88_v0 x0) + (((f_J13_bitCount_95d88_v0 x0)).toUInt64 >>> (((4 : Int32)).toInt64.toUInt64 &&& Int64.toUInt64 63)).toInt64) &&& (1085102592571150095 : Int64)))]) hx hb dJ13_bitCount_95d88_33 rfl hl (by decide) rfl (fun ls hl => ?_)
  refine lv_lload_n hx hb dJ13_bitCount_95d88_34 rfl (lv_at hl 0 rfl) ?_
  refine lv_lload_n hx hb dJ13_bitCount_95d88_35 rfl (lv_at hl 0 rfl) ?_
  refine lv_bipush (v := (8 : Int32)) hx hb dJ13_bitCount_95d88_36 (by decide) ?_
  refine lv_lushr (v := (((((f_J13_bitCount_95d88_v0 x0) + (((f_J13_bitCount_95d88_v0 x0)).toUInt64 >>> (((4 : Int32)).toInt64.toUInt64 &&& Int64.toUInt64 63)).toInt64) &&& (1085102592571150095 : Int64))).toUInt64 >>> (((8 : Int32)).toInt64.toUInt64 &&& Int64.toUInt64 63)).toInt64) hx hb dJ13_bitCount_95d88_38 rfl ?_
  refine lv_ladd hx hb dJ13_bitCount_95d88_39 ?_
  refine lv_lstore_n (lv' := [(0, .long (f_J13_bitCount_95d88_v1 x0))]) hx hb dJ13_bitCount_95d88_40 rfl hl (by decide) rfl (fun ls hl => ?_)
  refine lv_lload_n hx hb dJ13_bitCount_95d88_41 rfl (lv_at hl 0 rfl) ?_
  refine lv_lload_n hx hb dJ13_bitCount_95d88_42 rfl (lv_at hl 0 rfl) ?_
  refine lv_bipush (v := (16 : Int32)) hx hb dJ13_bitCount_95d88_43 (by decide) ?_
  refine lv_lushr (v := (((f_J13_bitCount_95d88_v1 x0)).toUInt64 >>> (((16 : Int32)).toInt64.toUInt64 &&& Int64.toUInt64 63)).toInt64) hx hb dJ13_bitCount_95d88_45 rfl ?_
  refine lv_ladd hx hb dJ13_bitCount_95d88_46 ?_
  refine lv_lstore_n (lv' := [(0, .long ((f_J13_bitCount_95d88_v1 x0) + (((f_J13_bitCount_95d88_v1 x0)).toUInt64 >>> (((16 : Int32)).toInt64.toUInt64 &&& Int64.toUInt64 63)).toInt64))]) hx hb dJ13_bitCount_95d88_47 rfl hl (by decide) rfl (fun ls hl => ?_)
  refine lv_lload_n hx hb dJ13_bitCount_95d88_48 rfl (lv_at hl 0 rfl) ?_
  refine lv_lload_n hx hb dJ13_bitCount_95d88_49 rfl (lv_at hl 0 rfl) ?_
  refine lv_bipush (v := (32 : Int32)) hx hb dJ13_bitCount_95d88_50 (by decide) ?_
  refine lv_lushr (v := ((((f_J13_bitCount_95d88_v1 x0) + (((f_J13_bitCount_95d88_v1 x0)).toUInt64 >>> (((16 : Int32)).toInt64.toUInt64 &&& Int64.toUInt64 63)).toInt64)).toUInt64 >>> (((32 : Int32)).toInt64.toUInt64 &&& Int64.toUInt64 63)).toInt64) hx hb dJ13_bitCount_95d88_52 rfl ?_
  refine lv_ladd hx hb dJ13_bitCount_95d88_53 ?_
  refine lv_lstore_n (lv' := [(0, .long (((f_J13_bitCount_95d88_v1 x0) + (((f_J13_bitCount_95d88_v1 x0)).toUInt64 >>> (((16 : Int32)).toInt64.toUInt64 &&& Int64.toUInt64 63)).toInt64) + ((((f_J13_bitCount_95d88_v1 x0) + (((f_J13_bitCount_95d88_v1 x0)).toUInt64 >>> (((16 : Int32)).toInt64.toUInt64 &&& Int64.toUInt64 63)).toInt64)).toUInt64 >>> (((32 : Int32)).toInt64.toUInt64 &&& Int64.toUInt64 63)).toInt64))]) hx hb dJ13_bitCount_95d88_54 rfl hl (by decide) rfl (fun ls hl => ?_)
  refine lv_lload_n hx hb dJ13_bitCount_95d88_55 rfl (lv_at hl 0 rfl) ?_
  refine lv_l2i (v := ((((f_J13_bitCount_95d88_v1 x0) + (((f_J13_bitCount_95d88_v1 x0)).toUInt64 >>> (((16 : Int32)).toInt64.toUInt64 &&& Int64.toUInt64 63)).toInt64) + ((((f_J13_bitCount_95d88_v1 x0) + (((f_J13_bitCount_95d88_v1 x0)).toUInt64 >>> (((16 : Int32)).toInt64.toUInt64 &&& Int64.toUInt64 63)).toInt64)).toUInt64 >>> (((32 : Int32)).toInt64.toUInt64 &&& Int64.toUInt64 63)).toInt64)).toInt32) hx hb dJ13_bitCount_95d88_56 rfl ?_
  refine lv_bipush (v := (127 : Int32)) hx hb dJ13_bitCount_95d88_57 (by decide) ?_
  refine lv_iand hx hb dJ13_bitCount_95d88_59 ?_
  cases hf
  exact hret _ _ _ _ dJ13_bitCount_95d88_60 hP hD hS
def f_X5_spreadOut (gr_nodes : Int32) (gr_links : Int32) (gr_start : Nat → Int32) (gr_end : Nat → Int32) (gr_wayLinks : Nat → Int32) (mk_bits : Nat → Int64) (bn_links : Nat → Int32) (x1 : Int32) (x2 : Int32) (x3 : Int32) (x4 : Int32) : Option (Int32 × Int32 × Int32 × Int32 × Int32 × Int32 × Int32) :=
  Option.bind (f_X2_treeLinks gr_nodes gr_wayLinks x1 x2) fun r2 =>
  Option.bind (f_X5_foldedBits gr_links mk_bits bn_links r2 x3 x4) fun r5 =>
  Option.bind (f_X5_matchingLinks gr_links mk_bits bn_links r5 x3) fun r8 =>
  Option.bind (f_X1_run gr_links gr_start gr_end x1 r2 r8) fun (fl_passages_11, fl_astray_12, fl_loops_13, fl_steps_14, fl_reached_15, fl_matchingAside_16) =>
  some ((f_J13_bitCount_95d88 r5), fl_passages_11, fl_astray_12, fl_loops_13, fl_steps_14, fl_reached_15, fl_matchingAside_16)
abbrev rm_X5_spreadOut : Room := { frames := 3, cells := 0, slots := 0, locals := 75 }
set_option maxHeartbeats 4000000 in
set_option maxRecDepth 100000 in
theorem c_X5_spreadOut (l : Launch) (D : va_G) (cI cJ : ClassId) (ad : Nat → Nat) (sz : Nat) {xx_netsRead xx_timesSent xx_passagesSent xx_astraySent xx_loopsSent : Int32} {pg_codes : Nat → Int32} {pg_length gr_nodes gr_links : Int32} {gr_start gr_end gr_linkBetween gr_wayLength gr_wayNext gr_wayLinks : Nat → Int32} {mk_width mk_drawn mk_seed : Int32} {mk_nextSeed : Int64} {mk_bits : Nat → Int64} {bn_links : Nat → Int32} {fl_foldBits fl_passages fl_astray fl_loops fl_steps fl_reached fl_matchingAside : Int32} (x1 : Int32) (x2 : Int32) (x3 : Int32) (x4 : Int32) {o_fl_foldBits : Int32} {o_fl_passages : Int32} {o_fl_astray : Int32} {o_fl_loops : Int32} {o_fl_steps : Int32} {o_fl_reached : Int32} {o_fl_matchingAside : Int32} (hf : f_X5_spreadOut gr_nodes gr_links gr_start gr_end gr_wayLinks mk_bits bn_links x1 x2 x3 x4 = some (o_fl_foldBits, o_fl_passages, o_fl_astray, o_fl_loops, o_fl_steps, o_fl_reached, o_fl_matchingAside)) : CtV l yX5_spreadOut wsX5_spreadOut rm_X5_spreadOut D cI cJ [.ref (ad 0), .int x1, .int x2, .int x3, .int x4] (wdX cI cJ ad xx_netsRead xx_timesSent xx_passagesSent xx_astraySent xx_loopsSent pg_codes pg_length gr_nodes gr_links gr_start gr_end gr_linkBetween gr_wayLength gr_wayNext gr_wayLinks mk_width mk_drawn mk_seed mk_nextSeed mk_bits bn_links fl_foldBits fl_passages fl_astray fl_loops fl_steps fl_reached fl_matchingAside) sz (wdX cI cJ ad xx_netsRead xx_timesSent xx_passagesSent xx_astraySent xx_loopsSent pg_codes pg_length gr_nodes gr_links gr_start gr_end gr_linkBetween gr_wayLength gr_wayNext gr_wayLinks mk_width mk_drawn mk_seed mk_nextSeed mk_bits bn_links o_fl_foldBits o_fl_passages o_fl_astray o_fl_loops o_fl_steps o_fl_reached o_fl_matchingAside) := by
  refine ctV_of (cc := cX5_spreadOut) (maxL := 8) (by decide) rfl (Nat.le_of_ble_eq_true rfl) ?_
  intro p e s m below meth c Q A hx hb hml hown hts hK hN hA hret ls hl hP hD hS
  obtain ⟨args, hargs⟩ : ∃ a : Array Value, a = [.ref (ad 0), .int x1, .int x2, .int x3, .int x4].toArray := ⟨_, rfl⟩
  rw [← hargs] at hts hret ⊢
  have hown : s.vm.findClass RX5 = some m.cls := hown
  have hl : lv_has ls 8 [(0, .ref (ad 0)), (1, .int x1), (2, .int x2), (3, .int x3), (4, .int x4)] := hl
  have hin_X1 : ∀ w ∈ wsX10, w ∈ wsX5_spreadOut := fun _ h => List.mem_cons_of_mem _ (List.mem_append_left _ (List.mem_append_left _ (List.mem_append_left _ (List.mem_append_right _ h))))
  have hin_X5 : ∀ w ∈ wsX50, w ∈ wsX5_spreadOut := fun _ h => List.mem_cons_of_mem _ (List.mem_append_left _ (List.mem_append_left _ (List.mem_append_left _ (List.mem_append_left _ (List.mem_append_right _ h)))))
  have fl_19 : (Cond.fieldLink RX5 19 "FoldedWays" "graph" "LFoldedWays$Graph;").before args s = true := hat hts 1 rfl
  have fl_40 : (Cond.fieldLink RX5 40 "FoldedWays" "flow" "LFoldedWays$Flow;").before args s = true := hat hts 2 rfl
  have fl_225 : (Cond.fieldLink RX5 225 "FoldedWays$Flow" "foldBits" "I").before args s = true := hat hts 3 rfl
  unfold f_X5_spreadOut at hf
  refine lv_aload_n hx hb dX5_spreadOut_0 rfl (lv_at hl 0 rfl) ?_
  refine va_get (ci := 5) (v := .ref (ad 3)) (C := RX5) (T := TX5) (N := 10) hx hb hts hin_X5 hown hK hP 0 rfl rfl 1 (by decide) fl_19 (fun _ h9 => h9) rfl dX5_spreadOut_1 ?_
  refine lv_iload_n hx hb dX5_spreadOut_4 rfl (lv_at hl 1 rfl) ?_
  refine lv_iload_n hx hb dX5_spreadOut_5 rfl (lv_at hl 2 rfl) ?_
  obtain ⟨r2, h1, hf⟩ := oo_b hf
  try dsimp only at hf
  have F : Fr D A _ (wdG cI cJ ad gr_nodes gr_links gr_start gr_end gr_linkBetween gr_wayLength gr_wayNext gr_wayLinks) (wdG cI cJ ad gr_nodes gr_links gr_start gr_end gr_linkBetween gr_wayLength gr_wayNext gr_wayLinks) (wdX cI cJ ad xx_netsRead xx_timesSent xx_passagesSent xx_astraySent xx_loopsSent pg_codes pg_length gr_nodes gr_links gr_start gr_end gr_linkBetween gr_wayLength gr_wayNext gr_wayLinks mk_width mk_drawn mk_seed mk_nextSeed mk_bits bn_links fl_foldBits fl_passages fl_astray fl_loops fl_steps fl_reached fl_matchingAside) := fr_X_G hP hD hS hA
  refine kI F hS (rV (q := (RX2, TX2, 8)) (As := [.int x1, .int x2]) (rest := []) ⟨hx, hb, hml, hown, hts⟩ hK hN F (c_X2_treeLinks l D cI cJ ad _ (gr_nodes := gr_nodes) (gr_links := gr_links) (gr_start := gr_start) (gr_end := gr_end) (gr_linkBetween := gr_linkBetween) (gr_wayLength := gr_wayLength) (gr_wayNext := gr_wayNext) (gr_wayLinks := gr_wayLinks) x1 x2 (o_res := r2) h1) (cwV 2 hts gX5_spreadOut_X2_treeLinks rfl rfl rfl (by decide +kernel) ⟨Nat.le_of_ble_eq_true rfl, Nat.le_of_ble_eq_true rfl⟩) (ci := 2) rfl rfl rfl hl.1 rfl (Nat.le_of_ble_eq_true rfl) dX5_spreadOut_6 ⟨Nat.zero_le _, Nat.zero_le _⟩) (fun H locs hP hD hS => ?_)
  refine lv_istore (lv' := [(5, .int r2), (0, .ref (ad 0)), (1, .int x1), (2, .int x2), (3, .int x3), (4, .int x4)]) hx hb dX5_spreadOut_9 hl (by decide) rfl (fun ls hl => ?_)
  refine lv_aload_n hx hb dX5_spreadOut_11 rfl (lv_at hl 1 rfl) ?_
  refine lv_iload hx hb dX5_spreadOut_12 (lv_at hl 0 rfl) ?_
  refine lv_iload_n hx hb dX5_spreadOut_14 rfl (lv_at hl 4 rfl) ?_
  refine lv_iload hx hb dX5_spreadOut_15 (lv_at hl 5 rfl) ?_
  obtain ⟨r5, h4, hf⟩ := oo_b hf
  try dsimp only at hf
  have F : Fr D A _ (wdX cI cJ ad xx_netsRead xx_timesSent xx_passagesSent xx_astraySent xx_loopsSent pg_codes pg_length gr_nodes gr_links gr_start gr_end gr_linkBetween gr_wayLength gr_wayNext gr_wayLinks mk_width mk_drawn mk_seed mk_nextSeed mk_bits bn_links fl_foldBits fl_passages fl_astray fl_loops fl_steps fl_reached fl_matchingAside) (wdX cI cJ ad xx_netsRead xx_timesSent xx_passagesSent xx_astraySent xx_loopsSent pg_codes pg_length gr_nodes gr_links gr_start gr_end gr_linkBetween gr_wayLength gr_wayNext gr_wayLinks mk_width mk_drawn mk_seed mk_nextSeed mk_bits bn_links fl_foldBits fl_passages fl_astray fl_loops fl_steps fl_reached fl_matchingAside) (wdX cI cJ ad xx_netsRead xx_timesSent xx_passagesSent xx_astraySent xx_loopsSent pg_codes pg_length gr_nodes gr_links gr_start gr_end gr_linkBetween gr_wayLength gr_wayNext gr_wayLinks mk_width mk_drawn mk_seed mk_nextSeed mk_bits bn_links fl_foldBits fl_passages fl_astray fl_loops fl_steps fl_reached fl_matchingAside) := fr_self hP hD hS hA
  refine kL F hS (rV (q := (RX5, TX5, 10)) (As := [.int r2, .int x3, .int x4]) (rest := []) ⟨hx, hb, hml, hown, hts⟩ hK hN F (c_X5_foldedBits l D cI cJ ad _ (xx_netsRead := xx_netsRead) (xx_timesSent := xx_timesSent) (xx_passagesSent := xx_passagesSent) (xx_astraySent := xx_astraySent) (xx_loopsSent := xx_loopsSent) (pg_codes := pg_codes) (pg_length := pg_length) (gr_nodes := gr_nodes) (gr_links := gr_links) (gr_start := gr_start) (gr_end := gr_end) (gr_linkBetween := gr_linkBetween) (gr_wayLength := gr_wayLength) (gr_wayNext := gr_wayNext) (gr_wayLinks := gr_wayLinks) (mk_width := mk_width) (mk_drawn := mk_drawn) (mk_seed := mk_seed) (mk_nextSeed := mk_nextSeed) (mk_bits := mk_bits) (bn_links := bn_links) (fl_foldBits := fl_foldBits) (fl_passages := fl_passages) (fl_astray := fl_astray) (fl_loops := fl_loops) (fl_steps := fl_steps) (fl_reached := fl_reached) (fl_matchingAside := fl_matchingAside) r2 x3 x4 (o_res := r5) h4) (cwV 3 hts gX5_spreadOut_X5_foldedBits rfl rfl rfl (by decide +kernel) ⟨Nat.le_of_ble_eq_true rfl, Nat.le_of_ble_eq_true rfl⟩) (ci := 5) rfl rfl rfl hl.1 rfl (Nat.le_of_ble_eq_true rfl) dX5_spreadOut_17 ⟨Nat.zero_le _, Nat.zero_le _⟩) (fun H locs hP hD hS => ?_)
  refine lv_lstore (lv' := [(6, .long r5), (5, .int r2), (0, .ref (ad 0)), (1, .int x1), (2, .int x2), (3, .int x3), (4, .int x4)]) hx hb dX5_spreadOut_20 hl (by decide) rfl (fun ls hl => ?_)
  refine lv_aload_n hx hb dX5_spreadOut_22 rfl (lv_at hl 2 rfl) ?_
  refine va_get (ci := 5) (v := .ref (ad 14)) (C := RX5) (T := TX5) (N := 10) hx hb hts hin_X5 hown hK hP 0 rfl rfl 4 (by decide) fl_40 (fun _ h9 => h9) rfl dX5_spreadOut_23 ?_
  refine lv_aload_n hx hb dX5_spreadOut_26 rfl (lv_at hl 2 rfl) ?_
  refine va_get (ci := 5) (v := .ref (ad 3)) (C := RX5) (T := TX5) (N := 10) hx hb hts hin_X5 hown hK hP 0 rfl rfl 1 (by decide) fl_19 (fun _ h9 => h9) rfl dX5_spreadOut_27 ?_
  refine lv_iload_n hx hb dX5_spreadOut_30 rfl (lv_at hl 3 rfl) ?_
  refine lv_iload hx hb dX5_spreadOut_31 (lv_at hl 1 rfl) ?_
  refine lv_aload_n hx hb dX5_spreadOut_33 rfl (lv_at hl 2 rfl) ?_
  refine lv_lload hx hb dX5_spreadOut_34 (lv_at hl 0 rfl) ?_
  refine lv_iload_n hx hb dX5_spreadOut_36 rfl (lv_at hl 5 rfl) ?_
  obtain ⟨r8, h7, hf⟩ := oo_b hf
  try dsimp only at hf
  have F : Fr D A _ (wdX cI cJ ad xx_netsRead xx_timesSent xx_passagesSent xx_astraySent xx_loopsSent pg_codes pg_length gr_nodes gr_links gr_start gr_end gr_linkBetween gr_wayLength gr_wayNext gr_wayLinks mk_width mk_drawn mk_seed mk_nextSeed mk_bits bn_links fl_foldBits fl_passages fl_astray fl_loops fl_steps fl_reached fl_matchingAside) (wdX cI cJ ad xx_netsRead xx_timesSent xx_passagesSent xx_astraySent xx_loopsSent pg_codes pg_length gr_nodes gr_links gr_start gr_end gr_linkBetween gr_wayLength gr_wayNext gr_wayLinks mk_width mk_drawn mk_seed mk_nextSeed mk_bits bn_links fl_foldBits fl_passages fl_astray fl_loops fl_steps fl_reached fl_matchingAside) (wdX cI cJ ad xx_netsRead xx_timesSent xx_passagesSent xx_astraySent xx_loopsSent pg_codes pg_length gr_nodes gr_links gr_start gr_end gr_linkBetween gr_wayLength gr_wayNext gr_wayLinks mk_width mk_drawn mk_seed mk_nextSeed mk_bits bn_links fl_foldBits fl_passages fl_astray fl_loops fl_steps fl_reached fl_matchingAside) := fr_self hP hD hS hA
  refine kI F hS (rV (q := (RX5, TX5, 10)) (As := [.long r5, .int x3]) (rest := [.int r2, .int x1, .ref (ad 3), .ref (ad 14)]) ⟨hx, hb, hml, hown, hts⟩ hK hN F (c_X5_matchingLinks l D cI cJ ad _ (xx_netsRead := xx_netsRead) (xx_timesSent := xx_timesSent) (xx_passagesSent := xx_passagesSent) (xx_astraySent := xx_astraySent) (xx_loopsSent := xx_loopsSent) (pg_codes := pg_codes) (pg_length := pg_length) (gr_nodes := gr_nodes) (gr_links := gr_links) (gr_start := gr_start) (gr_end := gr_end) (gr_linkBetween := gr_linkBetween) (gr_wayLength := gr_wayLength) (gr_wayNext := gr_wayNext) (gr_wayLinks := gr_wayLinks) (mk_width := mk_width) (mk_drawn := mk_drawn) (mk_seed := mk_seed) (mk_nextSeed := mk_nextSeed) (mk_bits := mk_bits) (bn_links := bn_links) (fl_foldBits := fl_foldBits) (fl_passages := fl_passages) (fl_astray := fl_astray) (fl_loops := fl_loops) (fl_steps := fl_steps) (fl_reached := fl_reached) (fl_matchingAside := fl_matchingAside) r5 x3 (o_res := r8) h7) (cwV 2 hts gX5_spreadOut_X5_matchingLinks rfl rfl rfl (by decide +kernel) ⟨Nat.le_of_ble_eq_true rfl, Nat.le_of_ble_eq_true rfl⟩) (ci := 5) rfl rfl rfl hl.1 rfl (Nat.le_of_ble_eq_true rfl) dX5_spreadOut_37 ⟨Nat.zero_le _, Nat.zero_le _⟩) (fun H locs hP hD hS => ?_)
  obtain ⟨⟨fl_passages_11, fl_astray_12, fl_loops_13, fl_steps_14, fl_reached_15, fl_matchingAside_16⟩, h10, hf⟩ := oo_b hf
  try dsimp only at hf
  have F : Fr D A _ (wdFG cI cJ ad fl_foldBits fl_passages fl_astray fl_loops fl_steps fl_reached fl_matchingAside gr_nodes gr_links gr_start gr_end gr_linkBetween gr_wayLength gr_wayNext gr_wayLinks) (wdFG cI cJ ad fl_foldBits fl_passages_11 fl_astray_12 fl_loops_13 fl_steps_14 fl_reached_15 fl_matchingAside_16 gr_nodes gr_links gr_start gr_end gr_linkBetween gr_wayLength gr_wayNext gr_wayLinks) (wdX cI cJ ad xx_netsRead xx_timesSent xx_passagesSent xx_astraySent xx_loopsSent pg_codes pg_length gr_nodes gr_links gr_start gr_end gr_linkBetween gr_wayLength gr_wayNext gr_wayLinks mk_width mk_drawn mk_seed mk_nextSeed mk_bits bn_links fl_foldBits fl_passages_11 fl_astray_12 fl_loops_13 fl_steps_14 fl_reached_15 fl_matchingAside_16) := fr_X_FG hP hD hS hA
  refine kV F hS (rV (q := (RX1, TX1, 7)) (As := [.ref (ad 3), .int x1, .int r2, .int r8]) (rest := []) ⟨hx, hb, hml, hown, hts⟩ hK hN F (c_X1_run l D cI cJ ad _ (fl_foldBits := fl_foldBits) (fl_passages := fl_passages) (fl_astray := fl_astray) (fl_loops := fl_loops) (fl_steps := fl_steps) (fl_reached := fl_reached) (fl_matchingAside := fl_matchingAside) (gr_nodes := gr_nodes) (gr_links := gr_links) (gr_start := gr_start) (gr_end := gr_end) (gr_linkBetween := gr_linkBetween) (gr_wayLength := gr_wayLength) (gr_wayNext := gr_wayNext) (gr_wayLinks := gr_wayLinks) x1 r2 r8 (o_fl_passages := fl_passages_11) (o_fl_astray := fl_astray_12) (o_fl_loops := fl_loops_13) (o_fl_steps := fl_steps_14) (o_fl_reached := fl_reached_15) (o_fl_matchingAside := fl_matchingAside_16) h10) (cwV 4 hts gX5_spreadOut_X1_run rfl rfl rfl (by decide +kernel) ⟨Nat.le_of_ble_eq_true rfl, Nat.le_of_ble_eq_true rfl⟩) (ci := 1) rfl rfl rfl hl.1 rfl (Nat.le_of_ble_eq_true rfl) dX5_spreadOut_40 ⟨Nat.zero_le _, Nat.zero_le _⟩) (fun H locs hP hD hS => ?_)
  refine lv_aload_n hx hb dX5_spreadOut_43 rfl (lv_at hl 2 rfl) ?_
  refine va_get (ci := 5) (v := .ref (ad 14)) (C := RX5) (T := TX5) (N := 10) hx hb hts hin_X5 hown hK hP 0 rfl rfl 4 (by decide) fl_40 (fun _ h9 => h9) rfl dX5_spreadOut_44 ?_
  refine lv_lload hx hb dX5_spreadOut_47 (lv_at hl 0 rfl) ?_
  have F : Fr D A _ [] [] (wdX cI cJ ad xx_netsRead xx_timesSent xx_passagesSent xx_astraySent xx_loopsSent pg_codes pg_length gr_nodes gr_links gr_start gr_end gr_linkBetween gr_wayLength gr_wayNext gr_wayLinks mk_width mk_drawn mk_seed mk_nextSeed mk_bits bn_links fl_foldBits fl_passages_11 fl_astray_12 fl_loops_13 fl_steps_14 fl_reached_15 fl_matchingAside_16) := fr_nil hP hD hS hA
  refine kI F hS (rS (As := [.long r5]) (rest := [.ref (ad 14)]) ⟨hx, hb, hml, hown, hts⟩ hK hN F (c_J13_bitCount_95d88 l D cI cJ ad _  r5 (o_res := (f_J13_bitCount_95d88 r5)) rfl) (va_cwS 1 hts gX5_spreadOut_J13_bitCount_95d88 rfl rfl rfl (by decide +kernel) ⟨Nat.le_of_ble_eq_true rfl, Nat.le_of_ble_eq_true rfl⟩) rfl hl.1 rfl (Nat.le_of_ble_eq_true rfl) dX5_spreadOut_49 ⟨Nat.zero_le _, Nat.zero_le _⟩) (fun H locs hP hD hS => ?_)
  refine va_put (ci := 1) (v := .int (f_J13_bitCount_95d88 r5)) (ty := .int) (C := RX1) (T := TX1) (N := 7) hx hb hts hin_X1 tyX1 tyX1_ok nmX1 hown hK hP hD hS 14 rfl rfl 0 (by decide) fl_225 (fun _ h9 => h9) rfl (by decide +kernel) rfl rfl (Nat.le_of_ble_eq_true rfl) dX5_spreadOut_52 (fun H locs hP hD hS => ?_)
  have hP : va_P D vwCl (wdX cI cJ ad xx_netsRead xx_timesSent xx_passagesSent xx_astraySent xx_loopsSent pg_codes pg_length gr_nodes gr_links gr_start gr_end gr_linkBetween gr_wayLength gr_wayNext gr_wayLinks mk_width mk_drawn mk_seed mk_nextSeed mk_bits bn_links (f_J13_bitCount_95d88 r5) fl_passages_11 fl_astray_12 fl_loops_13 fl_steps_14 fl_reached_15 fl_matchingAside_16) H := hP
  have hD : va_D A (wdX cI cJ ad xx_netsRead xx_timesSent xx_passagesSent xx_astraySent xx_loopsSent pg_codes pg_length gr_nodes gr_links gr_start gr_end gr_linkBetween gr_wayLength gr_wayNext gr_wayLinks mk_width mk_drawn mk_seed mk_nextSeed mk_bits bn_links (f_J13_bitCount_95d88 r5) fl_passages_11 fl_astray_12 fl_loops_13 fl_steps_14 fl_reached_15 fl_matchingAside_16) := hD
  cases hf
  exact hret _ _ _ _ dX5_spreadOut_55 hP hD hS
def f_X5_spreadFact (mk_width : Int32) (mk_drawn : Int32) (fl_foldBits : Int32) (fl_passages : Int32) (fl_astray : Int32) (fl_loops : Int32) (fl_steps : Int32) (fl_reached : Int32) (fl_matchingAside : Int32) (x1 : Int32) : Option (Int32) :=
  if x1 = (0 : Int32) then
    some fl_foldBits
  else
    if x1 = (1 : Int32) then
      some fl_passages
    else
      if x1 = (2 : Int32) then
        some fl_astray
      else
        if x1 = (3 : Int32) then
          some fl_loops
        else
          if x1 = (4 : Int32) then
            some fl_steps
          else
            if x1 = (5 : Int32) then
              some fl_reached
            else
              if x1 = (6 : Int32) then
                Option.bind (f_X3_oddsAbove mk_width mk_drawn fl_foldBits) fun r10 =>
                some r10
              else
                if x1 = (7 : Int32) then
                  Option.bind (f_X3_oddsBelow mk_width mk_drawn fl_foldBits) fun r14 =>
                  some r14
                else
                  some fl_matchingAside
abbrev rm_X5_spreadFact : Room := { frames := 2, cells := 0, slots := 0, locals := 44 }
set_option maxHeartbeats 4000000 in
set_option maxRecDepth 100000 in
theorem c_X5_spreadFact (l : Launch) (D : va_G) (cI cJ : ClassId) (ad : Nat → Nat) (sz : Nat) {xx_netsRead xx_timesSent xx_passagesSent xx_astraySent xx_loopsSent : Int32} {pg_codes : Nat → Int32} {pg_length gr_nodes gr_links : Int32} {gr_start gr_end gr_linkBetween gr_wayLength gr_wayNext gr_wayLinks : Nat → Int32} {mk_width mk_drawn mk_seed : Int32} {mk_nextSeed : Int64} {mk_bits : Nat → Int64} {bn_links : Nat → Int32} {fl_foldBits fl_passages fl_astray fl_loops fl_steps fl_reached fl_matchingAside : Int32} (x1 : Int32) {o_res : Int32} (hf : f_X5_spreadFact mk_width mk_drawn fl_foldBits fl_passages fl_astray fl_loops fl_steps fl_reached fl_matchingAside x1 = some o_res) : CtI l yX5_spreadFact wsX5_spreadFact rm_X5_spreadFact D cI cJ [.ref (ad 0), .int x1] (wdX cI cJ ad xx_netsRead xx_timesSent xx_passagesSent xx_astraySent xx_loopsSent pg_codes pg_length gr_nodes gr_links gr_start gr_end gr_linkBetween gr_wayLength gr_wayNext gr_wayLinks mk_width mk_drawn mk_seed mk_nextSeed mk_bits bn_links fl_foldBits fl_passages fl_astray fl_loops fl_steps fl_reached fl_matchingAside) sz o_res (wdX cI cJ ad xx_netsRead xx_timesSent xx_passagesSent xx_astraySent xx_loopsSent pg_codes pg_length gr_nodes gr_links gr_start gr_end gr_linkBetween gr_wayLength gr_wayNext gr_wayLinks mk_width mk_drawn mk_seed mk_nextSeed mk_bits bn_links fl_foldBits fl_passages fl_astray fl_loops fl_steps fl_reached fl_matchingAside) := by
  refine ctI_of (cc := cX5_spreadFact) (maxL := 2) (by decide) rfl (Nat.le_of_ble_eq_true rfl) ?_
  intro p e s m below meth c Q A hx hb hml hown hts hK hN hA hret ls hl hP hD hS
  obtain ⟨args, hargs⟩ : ∃ a : Array Value, a = [.ref (ad 0), .int x1].toArray := ⟨_, rfl⟩
  rw [← hargs] at hts hret ⊢
  have hown : s.vm.findClass RX5 = some m.cls := hown
  have hl : lv_has ls 2 [(0, .ref (ad 0)), (1, .int x1)] := hl
  have hin_X1 : ∀ w ∈ wsX10, w ∈ wsX5_spreadFact := fun _ h => List.mem_cons_of_mem _ (List.mem_append_left _ (List.mem_append_right _ h))
  have hin_X5 : ∀ w ∈ wsX50, w ∈ wsX5_spreadFact := fun _ h => List.mem_cons_of_mem _ (List.mem_append_left _ (List.mem_append_left _ (List.mem_append_right _ h)))
  have fl_26 : (Cond.fieldLink RX5 26 "FoldedWays" "marks" "LFoldedWays$Marks;").before args s = true := hat hts 8 rfl
  have fl_40 : (Cond.fieldLink RX5 40 "FoldedWays" "flow" "LFoldedWays$Flow;").before args s = true := hat hts 1 rfl
  have fl_171 : (Cond.fieldLink RX5 171 "FoldedWays$Flow" "passages" "I").before args s = true := hat hts 3 rfl
  have fl_177 : (Cond.fieldLink RX5 177 "FoldedWays$Flow" "astray" "I").before args s = true := hat hts 4 rfl
  have fl_183 : (Cond.fieldLink RX5 183 "FoldedWays$Flow" "loops" "I").before args s = true := hat hts 5 rfl
  have fl_225 : (Cond.fieldLink RX5 225 "FoldedWays$Flow" "foldBits" "I").before args s = true := hat hts 2 rfl
  have fl_228 : (Cond.fieldLink RX5 228 "FoldedWays$Flow" "steps" "I").before args s = true := hat hts 6 rfl
  have fl_231 : (Cond.fieldLink RX5 231 "FoldedWays$Flow" "reached" "I").before args s = true := hat hts 7 rfl
  have fl_240 : (Cond.fieldLink RX5 240 "FoldedWays$Flow" "matchingAside" "I").before args s = true := hat hts 9 rfl
  unfold f_X5_spreadFact at hf
  refine lv_iload_n hx hb dX5_spreadFact_0 rfl (lv_at hl 1 rfl) ?_
  by_cases c2 : x1 = (0 : Int32)
  · have hf := oo_t hf c2
    refine lv_tableIn (tgt := 48) hx hb dX5_spreadFact_1 (by rw [c2]; decide) (by rw [c2]; decide) (by rw [c2]; rfl) (by decide) ?_
    refine lv_aload_n hx hb dX5_spreadFact_48 rfl (lv_at hl 0 rfl) ?_
    refine va_get (ci := 5) (v := .ref (ad 14)) (C := RX5) (T := TX5) (N := 10) hx hb hts hin_X5 hown hK hP 0 rfl rfl 4 (by decide) fl_40 (fun _ h9 => h9) rfl dX5_spreadFact_49 ?_
    refine va_get (ci := 1) (v := .int fl_foldBits) (C := RX1) (T := TX1) (N := 7) hx hb hts hin_X1 hown hK hP 14 rfl rfl 0 (by decide) fl_225 (fun _ h9 => h9) rfl dX5_spreadFact_52 ?_
    cases hf
    exact hret _ _ _ _ dX5_spreadFact_55 hP hD hS
  · have hf := oo_f hf c2
    by_cases c3 : x1 = (1 : Int32)
    · have hf := oo_t hf c3
      refine lv_tableIn (tgt := 56) hx hb dX5_spreadFact_1 (by rw [c3]; decide) (by rw [c3]; decide) (by rw [c3]; rfl) (by decide) ?_
      refine lv_aload_n hx hb dX5_spreadFact_56 rfl (lv_at hl 0 rfl) ?_
      refine va_get (ci := 5) (v := .ref (ad 14)) (C := RX5) (T := TX5) (N := 10) hx hb hts hin_X5 hown hK hP 0 rfl rfl 4 (by decide) fl_40 (fun _ h9 => h9) rfl dX5_spreadFact_57 ?_
      refine va_get (ci := 1) (v := .int fl_passages) (C := RX1) (T := TX1) (N := 7) hx hb hts hin_X1 hown hK hP 14 rfl rfl 1 (by decide) fl_171 (fun _ h9 => h9) rfl dX5_spreadFact_60 ?_
      cases hf
      exact hret _ _ _ _ dX5_spreadFact_63 hP hD hS
    · have hf := oo_f hf c3
      by_cases c4 : x1 = (2 : Int32)
      · have hf := oo_t hf c4
        refine lv_tableIn (tgt := 64) hx hb dX5_spreadFact_1 (by rw [c4]; decide) (by rw [c4]; decide) (by rw [c4]; rfl) (by decide) ?_
        refine lv_aload_n hx hb dX5_spreadFact_64 rfl (lv_at hl 0 rfl) ?_
        refine va_get (ci := 5) (v := .ref (ad 14)) (C := RX5) (T := TX5) (N := 10) hx hb hts hin_X5 hown hK hP 0 rfl rfl 4 (by decide) fl_40 (fun _ h9 => h9) rfl dX5_spreadFact_65 ?_
        refine va_get (ci := 1) (v := .int fl_astray) (C := RX1) (T := TX1) (N := 7) hx hb hts hin_X1 hown hK hP 14 rfl rfl 2 (by decide) fl_177 (fun _ h9 => h9) rfl dX5_spreadFact_68 ?_
        cases hf
        exact hret _ _ _ _ dX5_spreadFact_71 hP hD hS
      · have hf := oo_f hf c4
        by_cases c5 : x1 = (3 : Int32)
        · have hf := oo_t hf c5
          refine lv_tableIn (tgt := 72) hx hb dX5_spreadFact_1 (by rw [c5]; decide) (by rw [c5]; decide) (by rw [c5]; rfl) (by decide) ?_
          refine lv_aload_n hx hb dX5_spreadFact_72 rfl (lv_at hl 0 rfl) ?_
          refine va_get (ci := 5) (v := .ref (ad 14)) (C := RX5) (T := TX5) (N := 10) hx hb hts hin_X5 hown hK hP 0 rfl rfl 4 (by decide) fl_40 (fun _ h9 => h9) rfl dX5_spreadFact_73 ?_
          refine va_get (ci := 1) (v := .int fl_loops) (C := RX1) (T := TX1) (N := 7) hx hb hts hin_X1 hown hK hP 14 rfl rfl 3 (by decide) fl_183 (fun _ h9 => h9) rfl dX5_spreadFact_76 ?_
          cases hf
          exact hret _ _ _ _ dX5_spreadFact_79 hP hD hS
        · have hf := oo_f hf c5
          by_cases c6 : x1 = (4 : Int32)
          · have hf := oo_t hf c6
            refine lv_tableIn (tgt := 80) hx hb dX5_spreadFact_1 (by rw [c6]; decide) (by rw [c6]; decide) (by rw [c6]; rfl) (by decide) ?_
            refine lv_aload_n hx hb dX5_spreadFact_80 rfl (lv_at hl 0 rfl) ?_
            refine va_get (ci := 5) (v := .ref (ad 14)) (C := RX5) (T := TX5) (N := 10) hx hb hts hin_X5 hown hK hP 0 rfl rfl 4 (by decide) fl_40 (fun _ h9 => h9) rfl dX5_spreadFact_81 ?_
            refine va_get (ci := 1) (v := .int fl_steps) (C := RX1) (T := TX1) (N := 7) hx hb hts hin_X1 hown hK hP 14 rfl rfl 4 (by decide) fl_228 (fun _ h9 => h9) rfl dX5_spreadFact_84 ?_
            cases hf
            exact hret _ _ _ _ dX5_spreadFact_87 hP hD hS
          · have hf := oo_f hf c6
            by_cases c7 : x1 = (5 : Int32)
            · have hf := oo_t hf c7
              refine lv_tableIn (tgt := 88) hx hb dX5_spreadFact_1 (by rw [c7]; decide) (by rw [c7]; decide) (by rw [c7]; rfl) (by decide) ?_
              refine lv_aload_n hx hb dX5_spreadFact_88 rfl (lv_at hl 0 rfl) ?_
              refine va_get (ci := 5) (v := .ref (ad 14)) (C := RX5) (T := TX5) (N := 10) hx hb hts hin_X5 hown hK hP 0 rfl rfl 4 (by decide) fl_40 (fun _ h9 => h9) rfl dX5_spreadFact_89 ?_
              refine va_get (ci := 1) (v := .int fl_reached) (C := RX1) (T := TX1) (N := 7) hx hb hts hin_X1 hown hK hP 14 rfl rfl 5 (by decide) fl_231 (fun _ h9 => h9) rfl dX5_spreadFact_92 ?_
              cases hf
              exact hret _ _ _ _ dX5_spreadFact_95 hP hD hS
            · have hf := oo_f hf c7
              by_cases c8 : x1 = (6 : Int32)
              · have hf := oo_t hf c8
                refine lv_tableIn (tgt := 96) hx hb dX5_spreadFact_1 (by rw [c8]; decide) (by rw [c8]; decide) (by rw [c8]; rfl) (by decide) ?_
                refine lv_aload_n hx hb dX5_spreadFact_96 rfl (lv_at hl 0 rfl) ?_
                refine va_get (ci := 5) (v := .ref (ad 10)) (C := RX5) (T := TX5) (N := 10) hx hb hts hin_X5 hown hK hP 0 rfl rfl 2 (by decide) fl_26 (fun _ h9 => h9) rfl dX5_spreadFact_97 ?_
                refine lv_aload_n hx hb dX5_spreadFact_100 rfl (lv_at hl 0 rfl) ?_
                refine va_get (ci := 5) (v := .ref (ad 14)) (C := RX5) (T := TX5) (N := 10) hx hb hts hin_X5 hown hK hP 0 rfl rfl 4 (by decide) fl_40 (fun _ h9 => h9) rfl dX5_spreadFact_101 ?_
                refine va_get (ci := 1) (v := .int fl_foldBits) (C := RX1) (T := TX1) (N := 7) hx hb hts hin_X1 hown hK hP 14 rfl rfl 0 (by decide) fl_225 (fun _ h9 => h9) rfl dX5_spreadFact_104 ?_
                obtain ⟨r10, h9, hf⟩ := oo_b hf
                try dsimp only at hf
                have F : Fr D A _ (wdK cI cJ ad mk_width mk_drawn mk_seed mk_nextSeed mk_bits) (wdK cI cJ ad mk_width mk_drawn mk_seed mk_nextSeed mk_bits) (wdX cI cJ ad xx_netsRead xx_timesSent xx_passagesSent xx_astraySent xx_loopsSent pg_codes pg_length gr_nodes gr_links gr_start gr_end gr_linkBetween gr_wayLength gr_wayNext gr_wayLinks mk_width mk_drawn mk_seed mk_nextSeed mk_bits bn_links fl_foldBits fl_passages fl_astray fl_loops fl_steps fl_reached fl_matchingAside) := fr_X_K hP hD hS hA
                refine kI F hS (rV (q := (RX3, TX3, 5)) (As := [.int fl_foldBits]) (rest := []) ⟨hx, hb, hml, hown, hts⟩ hK hN F (c_X3_oddsAbove l D cI cJ ad _ (mk_width := mk_width) (mk_drawn := mk_drawn) (mk_seed := mk_seed) (mk_nextSeed := mk_nextSeed) (mk_bits := mk_bits) fl_foldBits (o_res := r10) h9) (cwV 1 hts gX5_spreadFact_X3_oddsAbove rfl rfl rfl (by decide +kernel) ⟨Nat.le_of_ble_eq_true rfl, Nat.le_of_ble_eq_true rfl⟩) (ci := 3) rfl rfl rfl hl.1 rfl (Nat.le_of_ble_eq_true rfl) dX5_spreadFact_107 ⟨Nat.zero_le _, Nat.zero_le _⟩) (fun H locs hP hD hS => ?_)
                cases hf
                exact hret _ _ _ _ dX5_spreadFact_110 hP hD hS
              · have hf := oo_f hf c8
                by_cases c12 : x1 = (7 : Int32)
                · have hf := oo_t hf c12
                  refine lv_tableIn (tgt := 111) hx hb dX5_spreadFact_1 (by rw [c12]; decide) (by rw [c12]; decide) (by rw [c12]; rfl) (by decide) ?_
                  refine lv_aload_n hx hb dX5_spreadFact_111 rfl (lv_at hl 0 rfl) ?_
                  refine va_get (ci := 5) (v := .ref (ad 10)) (C := RX5) (T := TX5) (N := 10) hx hb hts hin_X5 hown hK hP 0 rfl rfl 2 (by decide) fl_26 (fun _ h9 => h9) rfl dX5_spreadFact_112 ?_
                  refine lv_aload_n hx hb dX5_spreadFact_115 rfl (lv_at hl 0 rfl) ?_
                  refine va_get (ci := 5) (v := .ref (ad 14)) (C := RX5) (T := TX5) (N := 10) hx hb hts hin_X5 hown hK hP 0 rfl rfl 4 (by decide) fl_40 (fun _ h9 => h9) rfl dX5_spreadFact_116 ?_
                  refine va_get (ci := 1) (v := .int fl_foldBits) (C := RX1) (T := TX1) (N := 7) hx hb hts hin_X1 hown hK hP 14 rfl rfl 0 (by decide) fl_225 (fun _ h9 => h9) rfl dX5_spreadFact_119 ?_
                  obtain ⟨r14, h13, hf⟩ := oo_b hf
                  try dsimp only at hf
                  have F : Fr D A _ (wdK cI cJ ad mk_width mk_drawn mk_seed mk_nextSeed mk_bits) (wdK cI cJ ad mk_width mk_drawn mk_seed mk_nextSeed mk_bits) (wdX cI cJ ad xx_netsRead xx_timesSent xx_passagesSent xx_astraySent xx_loopsSent pg_codes pg_length gr_nodes gr_links gr_start gr_end gr_linkBetween gr_wayLength gr_wayNext gr_wayLinks mk_width mk_drawn mk_seed mk_nextSeed mk_bits bn_links fl_foldBits fl_passages fl_astray fl_loops fl_steps fl_reached fl_matchingAside) := fr_X_K hP hD hS hA
                  refine kI F hS (rV (q := (RX3, TX3, 5)) (As := [.int fl_foldBits]) (rest := []) ⟨hx, hb, hml, hown, hts⟩ hK hN F (c_X3_oddsBelow l D cI cJ ad _ (mk_width := mk_width) (mk_drawn := mk_drawn) (mk_seed := mk_seed) (mk_nextSeed := mk_nextSeed) (mk_bits := mk_bits) fl_foldBits (o_res := r14) h13) (cwV 1 hts gX5_spreadFact_X3_oddsBelow rfl rfl rfl (by decide +kernel) ⟨Nat.le_of_ble_eq_true rfl, Nat.le_of_ble_eq_true rfl⟩) (ci := 3) rfl rfl rfl hl.1 rfl (Nat.le_of_ble_eq_true rfl) dX5_spreadFact_122 ⟨Nat.zero_le _, Nat.zero_le _⟩) (fun H locs hP hD hS => ?_)
                  cases hf
                  exact hret _ _ _ _ dX5_spreadFact_125 hP hD hS
                · have hf := oo_f hf c12
                  refine lv_tableOut (tgt := 126) hx hb dX5_spreadFact_1 (tblo_0_8 c2 c3 c4 c5 c6 c7 c8 c12) (by decide) ?_
                  refine lv_aload_n hx hb dX5_spreadFact_126 rfl (lv_at hl 0 rfl) ?_
                  refine va_get (ci := 5) (v := .ref (ad 14)) (C := RX5) (T := TX5) (N := 10) hx hb hts hin_X5 hown hK hP 0 rfl rfl 4 (by decide) fl_40 (fun _ h9 => h9) rfl dX5_spreadFact_127 ?_
                  refine va_get (ci := 1) (v := .int fl_matchingAside) (C := RX1) (T := TX1) (N := 7) hx hb hts hin_X1 hown hK hP 14 rfl rfl 6 (by decide) fl_240 (fun _ h9 => h9) rfl dX5_spreadFact_130 ?_
                  cases hf
                  exact hret _ _ _ _ dX5_spreadFact_133 hP hD hS
def f_X5_spread (gr_nodes : Int32) (gr_links : Int32) (gr_start : Nat → Int32) (gr_end : Nat → Int32) (gr_wayLinks : Nat → Int32) (mk_width : Int32) (mk_drawn : Int32) (mk_bits : Nat → Int64) (bn_links : Nat → Int32) (fl_foldBits : Int32) (fl_passages : Int32) (fl_astray : Int32) (fl_loops : Int32) (fl_steps : Int32) (fl_reached : Int32) (fl_matchingAside : Int32) (x1 : Int32) (x2 : Int32) (x3 : Int32) (x4 : Int32) (x5 : Int32) : Option (Int32 × Int32 × Int32 × Int32 × Int32 × Int32 × Int32 × Int32) :=
  if (f_X2_hasNode gr_nodes x1) = (0 : Int32) then
    some ((-1001 : Int32), fl_foldBits, fl_passages, fl_astray, fl_loops, fl_steps, fl_reached, fl_matchingAside)
  else
    if (f_X2_hasNodes gr_nodes x2) = (0 : Int32) then
      some ((-1002 : Int32), fl_foldBits, fl_passages, fl_astray, fl_loops, fl_steps, fl_reached, fl_matchingAside)
    else
      if (f_X5_isVariant x3) = (0 : Int32) then
        some ((-1002 : Int32), fl_foldBits, fl_passages, fl_astray, fl_loops, fl_steps, fl_reached, fl_matchingAside)
      else
        if x5 < (0 : Int32) then
          some ((-1002 : Int32), fl_foldBits, fl_passages, fl_astray, fl_loops, fl_steps, fl_reached, fl_matchingAside)
        else
          if x5 < (9 : Int32) then
            Option.bind (f_X5_spreadOut gr_nodes gr_links gr_start gr_end gr_wayLinks mk_bits bn_links x1 x2 x3 x4) fun (fl_foldBits_10, fl_passages_11, fl_astray_12, fl_loops_13, fl_steps_14, fl_reached_15, fl_matchingAside_16) =>
            Option.bind (f_X5_spreadFact mk_width mk_drawn fl_foldBits_10 fl_passages_11 fl_astray_12 fl_loops_13 fl_steps_14 fl_reached_15 fl_matchingAside_16 x5) fun r19 =>
            some (r19, fl_foldBits_10, fl_passages_11, fl_astray_12, fl_loops_13, fl_steps_14, fl_reached_15, fl_matchingAside_16)
          else
            some ((-1002 : Int32), fl_foldBits, fl_passages, fl_astray, fl_loops, fl_steps, fl_reached, fl_matchingAside)
abbrev rm_X5_spread : Room := { frames := 4, cells := 0, slots := 0, locals := 102 }
set_option maxHeartbeats 4000000 in
set_option maxRecDepth 100000 in
theorem c_X5_spread (l : Launch) (D : va_G) (cI cJ : ClassId) (ad : Nat → Nat) (sz : Nat) {xx_netsRead xx_timesSent xx_passagesSent xx_astraySent xx_loopsSent : Int32} {pg_codes : Nat → Int32} {pg_length gr_nodes gr_links : Int32} {gr_start gr_end gr_linkBetween gr_wayLength gr_wayNext gr_wayLinks : Nat → Int32} {mk_width mk_drawn mk_seed : Int32} {mk_nextSeed : Int64} {mk_bits : Nat → Int64} {bn_links : Nat → Int32} {fl_foldBits fl_passages fl_astray fl_loops fl_steps fl_reached fl_matchingAside : Int32} (x1 : Int32) (x2 : Int32) (x3 : Int32) (x4 : Int32) (x5 : Int32) {o_res : Int32} {o_fl_foldBits : Int32} {o_fl_passages : Int32} {o_fl_astray : Int32} {o_fl_loops : Int32} {o_fl_steps : Int32} {o_fl_reached : Int32} {o_fl_matchingAside : Int32} (hf : f_X5_spread gr_nodes gr_links gr_start gr_end gr_wayLinks mk_width mk_drawn mk_bits bn_links fl_foldBits fl_passages fl_astray fl_loops fl_steps fl_reached fl_matchingAside x1 x2 x3 x4 x5 = some (o_res, o_fl_foldBits, o_fl_passages, o_fl_astray, o_fl_loops, o_fl_steps, o_fl_reached, o_fl_matchingAside)) : CtI l yX5_spread wsX5_spread rm_X5_spread D cI cJ [.ref (ad 0), .int x1, .int x2, .int x3, .int x4, .int x5] (wdX cI cJ ad xx_netsRead xx_timesSent xx_passagesSent xx_astraySent xx_loopsSent pg_codes pg_length gr_nodes gr_links gr_start gr_end gr_linkBetween gr_wayLength gr_wayNext gr_wayLinks mk_width mk_drawn mk_seed mk_nextSeed mk_bits bn_links fl_foldBits fl_passages fl_astray fl_loops fl_steps fl_reached fl_matchingAside) sz o_res (wdX cI cJ ad xx_netsRead xx_timesSent xx_passagesSent xx_astraySent xx_loopsSent pg_codes pg_length gr_nodes gr_links gr_start gr_end gr_linkBetween gr_wayLength gr_wayNext gr_wayLinks mk_width mk_drawn mk_seed mk_nextSeed mk_bits bn_links o_fl_foldBits o_fl_passages o_fl_astray o_fl_loops o_fl_steps o_fl_reached o_fl_matchingAside) := by
  refine ctI_of (cc := cX5_spread) (maxL := 6) (by decide) rfl (Nat.le_of_ble_eq_true rfl) ?_
  intro p e s m below meth c Q A hx hb hml hown hts hK hN hA hret ls hl hP hD hS
  obtain ⟨args, hargs⟩ : ∃ a : Array Value, a = [.ref (ad 0), .int x1, .int x2, .int x3, .int x4, .int x5].toArray := ⟨_, rfl⟩
  rw [← hargs] at hts hret ⊢
  have hown : s.vm.findClass RX5 = some m.cls := hown
  have hl : lv_has ls 6 [(0, .ref (ad 0)), (1, .int x1), (2, .int x2), (3, .int x3), (4, .int x4), (5, .int x5)] := hl
  have hin_X5 : ∀ w ∈ wsX50, w ∈ wsX5_spread := fun _ h => List.mem_cons_of_mem _ (List.mem_append_left _ (List.mem_append_left _ (List.mem_append_left _ (List.mem_append_left _ (List.mem_append_right _ h)))))
  have fl_19 : (Cond.fieldLink RX5 19 "FoldedWays" "graph" "LFoldedWays$Graph;").before args s = true := hat hts 1 rfl
  unfold f_X5_spread at hf
  refine lv_aload_n hx hb dX5_spread_0 rfl (lv_at hl 0 rfl) ?_
  refine va_get (ci := 5) (v := .ref (ad 3)) (C := RX5) (T := TX5) (N := 10) hx hb hts hin_X5 hown hK hP 0 rfl rfl 1 (by decide) fl_19 (fun _ h9 => h9) rfl dX5_spread_1 ?_
  refine lv_iload_n hx hb dX5_spread_4 rfl (lv_at hl 1 rfl) ?_
  have F : Fr D A _ (wdG cI cJ ad gr_nodes gr_links gr_start gr_end gr_linkBetween gr_wayLength gr_wayNext gr_wayLinks) (wdG cI cJ ad gr_nodes gr_links gr_start gr_end gr_linkBetween gr_wayLength gr_wayNext gr_wayLinks) (wdX cI cJ ad xx_netsRead xx_timesSent xx_passagesSent xx_astraySent xx_loopsSent pg_codes pg_length gr_nodes gr_links gr_start gr_end gr_linkBetween gr_wayLength gr_wayNext gr_wayLinks mk_width mk_drawn mk_seed mk_nextSeed mk_bits bn_links fl_foldBits fl_passages fl_astray fl_loops fl_steps fl_reached fl_matchingAside) := fr_X_G hP hD hS hA
  refine kZ F hS (rV (q := (RX2, TX2, 8)) (As := [.int x1]) (rest := []) ⟨hx, hb, hml, hown, hts⟩ hK hN F (c_X2_hasNode l D cI cJ ad _ (gr_nodes := gr_nodes) (gr_links := gr_links) (gr_start := gr_start) (gr_end := gr_end) (gr_linkBetween := gr_linkBetween) (gr_wayLength := gr_wayLength) (gr_wayNext := gr_wayNext) (gr_wayLinks := gr_wayLinks) x1 (o_res := (f_X2_hasNode gr_nodes x1)) rfl) (cwV 1 hts gX5_spread_X2_hasNode rfl rfl rfl (by decide +kernel) ⟨Nat.le_of_ble_eq_true rfl, Nat.le_of_ble_eq_true rfl⟩) (ci := 2) rfl rfl rfl hl.1 rfl (Nat.le_of_ble_eq_true rfl) dX5_spread_5 ⟨Nat.zero_le _, Nat.zero_le _⟩) (fun H locs hb1 hP hD hS => ?_)
  refine lv_if_ne (tgt := 15) hx hb dX5_spread_8 (by decide) (fun c2 => ?_) (fun c2 => ?_)
  · have hf := oo_f hf c2
    refine lv_aload_n hx hb dX5_spread_15 rfl (lv_at hl 0 rfl) ?_
    refine va_get (ci := 5) (v := .ref (ad 3)) (C := RX5) (T := TX5) (N := 10) hx hb hts hin_X5 hown hK hP 0 rfl rfl 1 (by decide) fl_19 (fun _ h9 => h9) rfl dX5_spread_16 ?_
    refine lv_iload_n hx hb dX5_spread_19 rfl (lv_at hl 2 rfl) ?_
    have F : Fr D A _ (wdG cI cJ ad gr_nodes gr_links gr_start gr_end gr_linkBetween gr_wayLength gr_wayNext gr_wayLinks) (wdG cI cJ ad gr_nodes gr_links gr_start gr_end gr_linkBetween gr_wayLength gr_wayNext gr_wayLinks) (wdX cI cJ ad xx_netsRead xx_timesSent xx_passagesSent xx_astraySent xx_loopsSent pg_codes pg_length gr_nodes gr_links gr_start gr_end gr_linkBetween gr_wayLength gr_wayNext gr_wayLinks mk_width mk_drawn mk_seed mk_nextSeed mk_bits bn_links fl_foldBits fl_passages fl_astray fl_loops fl_steps fl_reached fl_matchingAside) := fr_X_G hP hD hS hA
    refine kZ F hS (rV (q := (RX2, TX2, 8)) (As := [.int x2]) (rest := []) ⟨hx, hb, hml, hown, hts⟩ hK hN F (c_X2_hasNodes l D cI cJ ad _ (gr_nodes := gr_nodes) (gr_links := gr_links) (gr_start := gr_start) (gr_end := gr_end) (gr_linkBetween := gr_linkBetween) (gr_wayLength := gr_wayLength) (gr_wayNext := gr_wayNext) (gr_wayLinks := gr_wayLinks) x2 (o_res := (f_X2_hasNodes gr_nodes x2)) rfl) (cwV 1 hts gX5_spread_X2_hasNodes rfl rfl rfl (by decide +kernel) ⟨Nat.le_of_ble_eq_true rfl, Nat.le_of_ble_eq_true rfl⟩) (ci := 2) rfl rfl rfl hl.1 rfl (Nat.le_of_ble_eq_true rfl) dX5_spread_20 ⟨Nat.zero_le _, Nat.zero_le _⟩) (fun H locs hb3 hP hD hS => ?_)
    refine lv_if_eq (tgt := 45) hx hb dX5_spread_23 (by decide) (fun c4 => ?_) (fun c4 => ?_)
    · have hf := oo_t hf c4
      refine lv_sipush (v := (-1002 : Int32)) hx hb dX5_spread_45 (by decide) ?_
      cases hf
      exact hret _ _ _ _ dX5_spread_48 hP hD hS
    · have hf := oo_f hf c4
      refine lv_iload_n hx hb dX5_spread_26 rfl (lv_at hl 3 rfl) ?_
      have F : Fr D A _ [] [] (wdX cI cJ ad xx_netsRead xx_timesSent xx_passagesSent xx_astraySent xx_loopsSent pg_codes pg_length gr_nodes gr_links gr_start gr_end gr_linkBetween gr_wayLength gr_wayNext gr_wayLinks mk_width mk_drawn mk_seed mk_nextSeed mk_bits bn_links fl_foldBits fl_passages fl_astray fl_loops fl_steps fl_reached fl_matchingAside) := fr_nil hP hD hS hA
      refine kZ F hS (rS (As := [.int x3]) (rest := []) ⟨hx, hb, hml, hown, hts⟩ hK hN F (c_X5_isVariant l D cI cJ ad _  x3 (o_res := (f_X5_isVariant x3)) rfl) (cwS 1 hts gX5_spread_X5_isVariant rfl rfl rfl (by decide +kernel) ⟨Nat.le_of_ble_eq_true rfl, Nat.le_of_ble_eq_true rfl⟩) rfl hl.1 rfl (Nat.le_of_ble_eq_true rfl) dX5_spread_27 ⟨Nat.zero_le _, Nat.zero_le _⟩) (fun H locs hb5 hP hD hS => ?_)
      refine lv_if_eq (tgt := 45) hx hb dX5_spread_30 (by decide) (fun c6 => ?_) (fun c6 => ?_)
      · have hf := oo_t hf c6
        refine lv_sipush (v := (-1002 : Int32)) hx hb dX5_spread_45 (by decide) ?_
        cases hf
        exact hret _ _ _ _ dX5_spread_48 hP hD hS
      · have hf := oo_f hf c6
        refine lv_iload hx hb dX5_spread_33 (lv_at hl 5 rfl) ?_
        refine lv_if_lt (tgt := 45) hx hb dX5_spread_35 (by decide) (fun c7 => ?_) (fun c7 => ?_)
        · have hf := oo_t hf c7
          refine lv_sipush (v := (-1002 : Int32)) hx hb dX5_spread_45 (by decide) ?_
          cases hf
          exact hret _ _ _ _ dX5_spread_48 hP hD hS
        · have hf := oo_f hf c7
          refine lv_iload hx hb dX5_spread_38 (lv_at hl 5 rfl) ?_
          refine lv_bipush (v := (9 : Int32)) hx hb dX5_spread_40 (by decide) ?_
          refine lv_icmp_lt (tgt := 49) hx hb dX5_spread_42 (by decide) (fun c8 => ?_) (fun c8 => ?_)
          · have hf := oo_t hf c8
            refine lv_aload_n hx hb dX5_spread_49 rfl (lv_at hl 0 rfl) ?_
            refine lv_iload_n hx hb dX5_spread_50 rfl (lv_at hl 1 rfl) ?_
            refine lv_iload_n hx hb dX5_spread_51 rfl (lv_at hl 2 rfl) ?_
            refine lv_iload_n hx hb dX5_spread_52 rfl (lv_at hl 3 rfl) ?_
            refine lv_iload hx hb dX5_spread_53 (lv_at hl 4 rfl) ?_
            obtain ⟨⟨fl_foldBits_10, fl_passages_11, fl_astray_12, fl_loops_13, fl_steps_14, fl_reached_15, fl_matchingAside_16⟩, h9, hf⟩ := oo_b hf
            try dsimp only at hf
            have F : Fr D A _ (wdX cI cJ ad xx_netsRead xx_timesSent xx_passagesSent xx_astraySent xx_loopsSent pg_codes pg_length gr_nodes gr_links gr_start gr_end gr_linkBetween gr_wayLength gr_wayNext gr_wayLinks mk_width mk_drawn mk_seed mk_nextSeed mk_bits bn_links fl_foldBits fl_passages fl_astray fl_loops fl_steps fl_reached fl_matchingAside) (wdX cI cJ ad xx_netsRead xx_timesSent xx_passagesSent xx_astraySent xx_loopsSent pg_codes pg_length gr_nodes gr_links gr_start gr_end gr_linkBetween gr_wayLength gr_wayNext gr_wayLinks mk_width mk_drawn mk_seed mk_nextSeed mk_bits bn_links fl_foldBits_10 fl_passages_11 fl_astray_12 fl_loops_13 fl_steps_14 fl_reached_15 fl_matchingAside_16) (wdX cI cJ ad xx_netsRead xx_timesSent xx_passagesSent xx_astraySent xx_loopsSent pg_codes pg_length gr_nodes gr_links gr_start gr_end gr_linkBetween gr_wayLength gr_wayNext gr_wayLinks mk_width mk_drawn mk_seed mk_nextSeed mk_bits bn_links fl_foldBits_10 fl_passages_11 fl_astray_12 fl_loops_13 fl_steps_14 fl_reached_15 fl_matchingAside_16) := fr_self hP hD hS hA
            refine kV F hS (rV (q := (RX5, TX5, 10)) (As := [.int x1, .int x2, .int x3, .int x4]) (rest := []) ⟨hx, hb, hml, hown, hts⟩ hK hN F (c_X5_spreadOut l D cI cJ ad _ (xx_netsRead := xx_netsRead) (xx_timesSent := xx_timesSent) (xx_passagesSent := xx_passagesSent) (xx_astraySent := xx_astraySent) (xx_loopsSent := xx_loopsSent) (pg_codes := pg_codes) (pg_length := pg_length) (gr_nodes := gr_nodes) (gr_links := gr_links) (gr_start := gr_start) (gr_end := gr_end) (gr_linkBetween := gr_linkBetween) (gr_wayLength := gr_wayLength) (gr_wayNext := gr_wayNext) (gr_wayLinks := gr_wayLinks) (mk_width := mk_width) (mk_drawn := mk_drawn) (mk_seed := mk_seed) (mk_nextSeed := mk_nextSeed) (mk_bits := mk_bits) (bn_links := bn_links) (fl_foldBits := fl_foldBits) (fl_passages := fl_passages) (fl_astray := fl_astray) (fl_loops := fl_loops) (fl_steps := fl_steps) (fl_reached := fl_reached) (fl_matchingAside := fl_matchingAside) x1 x2 x3 x4 (o_fl_foldBits := fl_foldBits_10) (o_fl_passages := fl_passages_11) (o_fl_astray := fl_astray_12) (o_fl_loops := fl_loops_13) (o_fl_steps := fl_steps_14) (o_fl_reached := fl_reached_15) (o_fl_matchingAside := fl_matchingAside_16) h9) (cwV 4 hts gX5_spread_X5_spreadOut rfl rfl rfl (by decide +kernel) ⟨Nat.le_of_ble_eq_true rfl, Nat.le_of_ble_eq_true rfl⟩) (ci := 5) rfl rfl rfl hl.1 rfl (Nat.le_of_ble_eq_true rfl) dX5_spread_55 ⟨Nat.zero_le _, Nat.zero_le _⟩) (fun H locs hP hD hS => ?_)
            refine lv_aload_n hx hb dX5_spread_58 rfl (lv_at hl 0 rfl) ?_
            refine lv_iload hx hb dX5_spread_59 (lv_at hl 5 rfl) ?_
            obtain ⟨r19, h18, hf⟩ := oo_b hf
            try dsimp only at hf
            have F : Fr D A _ (wdX cI cJ ad xx_netsRead xx_timesSent xx_passagesSent xx_astraySent xx_loopsSent pg_codes pg_length gr_nodes gr_links gr_start gr_end gr_linkBetween gr_wayLength gr_wayNext gr_wayLinks mk_width mk_drawn mk_seed mk_nextSeed mk_bits bn_links fl_foldBits_10 fl_passages_11 fl_astray_12 fl_loops_13 fl_steps_14 fl_reached_15 fl_matchingAside_16) (wdX cI cJ ad xx_netsRead xx_timesSent xx_passagesSent xx_astraySent xx_loopsSent pg_codes pg_length gr_nodes gr_links gr_start gr_end gr_linkBetween gr_wayLength gr_wayNext gr_wayLinks mk_width mk_drawn mk_seed mk_nextSeed mk_bits bn_links fl_foldBits_10 fl_passages_11 fl_astray_12 fl_loops_13 fl_steps_14 fl_reached_15 fl_matchingAside_16) (wdX cI cJ ad xx_netsRead xx_timesSent xx_passagesSent xx_astraySent xx_loopsSent pg_codes pg_length gr_nodes gr_links gr_start gr_end gr_linkBetween gr_wayLength gr_wayNext gr_wayLinks mk_width mk_drawn mk_seed mk_nextSeed mk_bits bn_links fl_foldBits_10 fl_passages_11 fl_astray_12 fl_loops_13 fl_steps_14 fl_reached_15 fl_matchingAside_16) := fr_self hP hD hS hA
            refine kI F hS (rV (q := (RX5, TX5, 10)) (As := [.int x5]) (rest := []) ⟨hx, hb, hml, hown, hts⟩ hK hN F (c_X5_spreadFact l D cI cJ ad _ (xx_netsRead := xx_netsRead) (xx_timesSent := xx_timesSent) (xx_passagesSent := xx_passagesSent) (xx_astraySent := xx_astraySent) (xx_loopsSent := xx_loopsSent) (pg_codes := pg_codes) (pg_length := pg_length) (gr_nodes := gr_nodes) (gr_links := gr_links) (gr_start := gr_start) (gr_end := gr_end) (gr_linkBetween := gr_linkBetween) (gr_wayLength := gr_wayLength) (gr_wayNext := gr_wayNext) (gr_wayLinks := gr_wayLinks) (mk_width := mk_width) (mk_drawn := mk_drawn) (mk_seed := mk_seed) (mk_nextSeed := mk_nextSeed) (mk_bits := mk_bits) (bn_links := bn_links) (fl_foldBits := fl_foldBits_10) (fl_passages := fl_passages_11) (fl_astray := fl_astray_12) (fl_loops := fl_loops_13) (fl_steps := fl_steps_14) (fl_reached := fl_reached_15) (fl_matchingAside := fl_matchingAside_16) x5 (o_res := r19) h18) (cwV 1 hts gX5_spread_X5_spreadFact rfl rfl rfl (by decide +kernel) ⟨Nat.le_of_ble_eq_true rfl, Nat.le_of_ble_eq_true rfl⟩) (ci := 5) rfl rfl rfl hl.1 rfl (Nat.le_of_ble_eq_true rfl) dX5_spread_61 ⟨Nat.zero_le _, Nat.zero_le _⟩) (fun H locs hP hD hS => ?_)
            cases hf
            exact hret _ _ _ _ dX5_spread_64 hP hD hS
          · have hf := oo_f hf c8
            refine lv_sipush (v := (-1002 : Int32)) hx hb dX5_spread_45 (by decide) ?_
            cases hf
            exact hret _ _ _ _ dX5_spread_48 hP hD hS
  · have hf := oo_t hf c2
    refine lv_sipush (v := (-1001 : Int32)) hx hb dX5_spread_11 (by decide) ?_
    cases hf
    exact hret _ _ _ _ dX5_spread_14 hP hD hS
def f_X5_bestVariant_L12 (gr_nodes : Int32) (gr_links : Int32) (gr_start : Nat → Int32) (gr_end : Nat → Int32) (gr_wayLinks : Nat → Int32) (mk_bits : Nat → Int64) (bn_links : Nat → Int32) (x1 : Int32) (x2 : Int32) (x3 : Int32) : Nat → Int32 → Int32 → Int32 → Int32 → Int32 → Int32 → Int32 → Int32 → Int32 → Int32 → Int32 → Option (Int32 × Int32 × Int32 × Int32 × Int32 × Int32 × Int32 × Int32)
  | 0, _, _, _, _, _, _, _, _, _, _, _ => none
  | n + 1, fl_foldBits_a12, fl_passages_a12, fl_astray_a12, fl_loops_a12, fl_steps_a12, fl_reached_a12, fl_matchingAside_a12, x4_a12, x5_a12, x6_a12, x7_a12 =>
      if (3 : Int32) ≤ x7_a12 then
        some (fl_foldBits_a12, fl_passages_a12, fl_astray_a12, fl_loops_a12, fl_steps_a12, fl_reached_a12, fl_matchingAside_a12, x4_a12)
      else
        Option.bind (f_X5_spreadOut gr_nodes gr_links gr_start gr_end gr_wayLinks mk_bits bn_links x1 x2 x7_a12 x3) fun (fl_foldBits_12, fl_passages_13, fl_astray_14, fl_loops_15, fl_steps_16, fl_reached_17, fl_matchingAside_18) =>
        Option.bind (α := Int32 × Int32 × Int32) (if x7_a12 = (0 : Int32) then
            some (x7_a12, fl_astray_14, fl_foldBits_12)
          else
            if (if fl_astray_14 < x5_a12 then (1 : Int32) else (if fl_astray_14 = x5_a12 then (if x6_a12 ≤ fl_foldBits_12 then (0 : Int32) else (1 : Int32)) else (0 : Int32))) = (0 : Int32) then
              some (x4_a12, x5_a12, x6_a12)
            else
              some (x7_a12, fl_astray_14, fl_foldBits_12)) fun (x4_22, x5_23, x6_24) =>
        f_X5_bestVariant_L12 gr_nodes gr_links gr_start gr_end gr_wayLinks mk_bits bn_links x1 x2 x3 n fl_foldBits_12 fl_passages_13 fl_astray_14 fl_loops_15 fl_steps_16 fl_reached_17 fl_matchingAside_18 x4_22 x5_23 x6_24 (x7_a12 + (1 : Int32))
theorem f_X5_bestVariant_L12_s (gr_nodes : Int32) (gr_links : Int32) (gr_start : Nat → Int32) (gr_end : Nat → Int32) (gr_wayLinks : Nat → Int32) (mk_bits : Nat → Int64) (bn_links : Nat → Int32) (x1 : Int32) (x2 : Int32) (x3 : Int32) (n : Nat) (fl_foldBits_a12 : Int32) (fl_passages_a12 : Int32) (fl_astray_a12 : Int32) (fl_loops_a12 : Int32) (fl_steps_a12 : Int32) (fl_reached_a12 : Int32) (fl_matchingAside_a12 : Int32) (x4_a12 : Int32) (x5_a12 : Int32) (x6_a12 : Int32) (x7_a12 : Int32) : f_X5_bestVariant_L12 gr_nodes gr_links gr_start gr_end gr_wayLinks mk_bits bn_links x1 x2 x3 (n + 1) fl_foldBits_a12 fl_passages_a12 fl_astray_a12 fl_loops_a12 fl_steps_a12 fl_reached_a12 fl_matchingAside_a12 x4_a12 x5_a12 x6_a12 x7_a12 =
      (if (3 : Int32) ≤ x7_a12 then
        some (fl_foldBits_a12, fl_passages_a12, fl_astray_a12, fl_loops_a12, fl_steps_a12, fl_reached_a12, fl_matchingAside_a12, x4_a12)
      else
        Option.bind (f_X5_spreadOut gr_nodes gr_links gr_start gr_end gr_wayLinks mk_bits bn_links x1 x2 x7_a12 x3) fun (fl_foldBits_12, fl_passages_13, fl_astray_14, fl_loops_15, fl_steps_16, fl_reached_17, fl_matchingAside_18) =>
        Option.bind (α := Int32 × Int32 × Int32) (if x7_a12 = (0 : Int32) then
            some (x7_a12, fl_astray_14, fl_foldBits_12)
          else
            if (if fl_astray_14 < x5_a12 then (1 : Int32) else (if fl_astray_14 = x5_a12 then (if x6_a12 ≤ fl_foldBits_12 then (0 : Int32) else (1 : Int32)) else (0 : Int32))) = (0 : Int32) then
              some (x4_a12, x5_a12, x6_a12)
            else
              some (x7_a12, fl_astray_14, fl_foldBits_12)) fun (x4_22, x5_23, x6_24) =>
        f_X5_bestVariant_L12 gr_nodes gr_links gr_start gr_end gr_wayLinks mk_bits bn_links x1 x2 x3 n fl_foldBits_12 fl_passages_13 fl_astray_14 fl_loops_15 fl_steps_16 fl_reached_17 fl_matchingAside_18 x4_22 x5_23 x6_24 (x7_a12 + (1 : Int32))) := rfl
def f_X5_bestVariant (gr_nodes : Int32) (gr_links : Int32) (gr_start : Nat → Int32) (gr_end : Nat → Int32) (gr_wayLinks : Nat → Int32) (mk_bits : Nat → Int64) (bn_links : Nat → Int32) (fl_foldBits : Int32) (fl_passages : Int32) (fl_astray : Int32) (fl_loops : Int32) (fl_steps : Int32) (fl_reached : Int32) (fl_matchingAside : Int32) (x1 : Int32) (x2 : Int32) (x3 : Int32) : Option (Int32 × Int32 × Int32 × Int32 × Int32 × Int32 × Int32 × Int32) :=
  Option.bind (f_X5_bestVariant_L12 gr_nodes gr_links gr_start gr_end gr_wayLinks mk_bits bn_links x1 x2 x3 100 fl_foldBits fl_passages fl_astray fl_loops fl_steps fl_reached fl_matchingAside (0 : Int32) (0 : Int32) (0 : Int32) (0 : Int32)) fun (fl_foldBits_o1, fl_passages_o2, fl_astray_o3, fl_loops_o4, fl_steps_o5, fl_reached_o6, fl_matchingAside_o7, x4_o8) =>
  some (x4_o8, fl_foldBits_o1, fl_passages_o2, fl_astray_o3, fl_loops_o4, fl_steps_o5, fl_reached_o6, fl_matchingAside_o7)
abbrev rm_X5_bestVariant : Room := { frames := 4, cells := 0, slots := 0, locals := 102 }
set_option maxHeartbeats 4000000 in
set_option maxRecDepth 100000 in
theorem c_X5_bestVariant (l : Launch) (D : va_G) (cI cJ : ClassId) (ad : Nat → Nat) (sz : Nat) {xx_netsRead xx_timesSent xx_passagesSent xx_astraySent xx_loopsSent : Int32} {pg_codes : Nat → Int32} {pg_length gr_nodes gr_links : Int32} {gr_start gr_end gr_linkBetween gr_wayLength gr_wayNext gr_wayLinks : Nat → Int32} {mk_width mk_drawn mk_seed : Int32} {mk_nextSeed : Int64} {mk_bits : Nat → Int64} {bn_links : Nat → Int32} {fl_foldBits fl_passages fl_astray fl_loops fl_steps fl_reached fl_matchingAside : Int32} (x1 : Int32) (x2 : Int32) (x3 : Int32) {o_res : Int32} {o_fl_foldBits : Int32} {o_fl_passages : Int32} {o_fl_astray : Int32} {o_fl_loops : Int32} {o_fl_steps : Int32} {o_fl_reached : Int32} {o_fl_matchingAside : Int32} (hf : f_X5_bestVariant gr_nodes gr_links gr_start gr_end gr_wayLinks mk_bits bn_links fl_foldBits fl_passages fl_astray fl_loops fl_steps fl_reached fl_matchingAside x1 x2 x3 = some (o_res, o_fl_foldBits, o_fl_passages, o_fl_astray, o_fl_loops, o_fl_steps, o_fl_reached, o_fl_matchingAside)) : CtI l yX5_bestVariant wsX5_bestVariant rm_X5_bestVariant D cI cJ [.ref (ad 0), .int x1, .int x2, .int x3] (wdX cI cJ ad xx_netsRead xx_timesSent xx_passagesSent xx_astraySent xx_loopsSent pg_codes pg_length gr_nodes gr_links gr_start gr_end gr_linkBetween gr_wayLength gr_wayNext gr_wayLinks mk_width mk_drawn mk_seed mk_nextSeed mk_bits bn_links fl_foldBits fl_passages fl_astray fl_loops fl_steps fl_reached fl_matchingAside) sz o_res (wdX cI cJ ad xx_netsRead xx_timesSent xx_passagesSent xx_astraySent xx_loopsSent pg_codes pg_length gr_nodes gr_links gr_start gr_end gr_linkBetween gr_wayLength gr_wayNext gr_wayLinks mk_width mk_drawn mk_seed mk_nextSeed mk_bits bn_links o_fl_foldBits o_fl_passages o_fl_astray o_fl_loops o_fl_steps o_fl_reached o_fl_matchingAside) := by
  refine ctI_of (cc := cX5_bestVariant) (maxL := 9) (by decide) rfl (Nat.le_of_ble_eq_true rfl) ?_
  intro p e s m below meth c Q A hx hb hml hown hts hK hN hA hret ls hl hP hD hS
  obtain ⟨args, hargs⟩ : ∃ a : Array Value, a = [.ref (ad 0), .int x1, .int x2, .int x3].toArray := ⟨_, rfl⟩
  rw [← hargs] at hts hret ⊢
  have hown : s.vm.findClass RX5 = some m.cls := hown
  have hl : lv_has ls 9 [(0, .ref (ad 0)), (1, .int x1), (2, .int x2), (3, .int x3)] := hl
  have hin_X1 : ∀ w ∈ wsX10, w ∈ wsX5_bestVariant := fun _ h => List.mem_cons_of_mem _ (List.mem_append_left _ (List.mem_append_left _ (List.mem_append_left _ (List.mem_append_right _ h))))
  have hin_X5 : ∀ w ∈ wsX50, w ∈ wsX5_bestVariant := fun _ h => List.mem_cons_of_mem _ (List.mem_append_left _ (List.mem_append_left _ (List.mem_append_left _ (List.mem_append_left _ (List.mem_append_right _ h)))))
  have fl_40 : (Cond.fieldLink RX5 40 "FoldedWays" "flow" "LFoldedWays$Flow;").before args s = true := hat hts 1 rfl
  have fl_177 : (Cond.fieldLink RX5 177 "FoldedWays$Flow" "astray" "I").before args s = true := hat hts 2 rfl
  have fl_225 : (Cond.fieldLink RX5 225 "FoldedWays$Flow" "foldBits" "I").before args s = true := hat hts 3 rfl
  unfold f_X5_bestVariant at hf
  refine lv_iconst (v := (0 : Int32)) hx hb dX5_bestVariant_0 (by decide) ?_
  refine lv_istore (lv' := [(4, .int (0 : Int32)), (0, .ref (ad 0)), (1, .int x1), (2, .int x2), (3, .int x3)]) hx hb dX5_bestVariant_1 hl (by decide) rfl (fun ls hl => ?_)
  refine lv_iconst (v := (0 : Int32)) hx hb dX5_bestVariant_3 (by decide) ?_
  refine lv_istore (lv' := [(5, .int (0 : Int32)), (4, .int (0 : Int32)), (0, .ref (ad 0)), (1, .int x1), (2, .int x2), (3, .int x3)]) hx hb dX5_bestVariant_4 hl (by decide) rfl (fun ls hl => ?_)
  refine lv_iconst (v := (0 : Int32)) hx hb dX5_bestVariant_6 (by decide) ?_
  refine lv_istore (lv' := [(6, .int (0 : Int32)), (5, .int (0 : Int32)), (4, .int (0 : Int32)), (0, .ref (ad 0)), (1, .int x1), (2, .int x2), (3, .int x3)]) hx hb dX5_bestVariant_7 hl (by decide) rfl (fun ls hl => ?_)
  refine lv_iconst (v := (0 : Int32)) hx hb dX5_bestVariant_9 (by decide) ?_
  refine lv_istore (lv' := [(7, .int (0 : Int32)), (6, .int (0 : Int32)), (5, .int (0 : Int32)), (4, .int (0 : Int32)), (0, .ref (ad 0)), (1, .int x1), (2, .int x2), (3, .int x3)]) hx hb dX5_bestVariant_10 hl (by decide) rfl (fun ls hl => ?_)
  have lp9 : ∀ (n : Nat) (fl_foldBits_a12 : Int32) (fl_passages_a12 : Int32) (fl_astray_a12 : Int32) (fl_loops_a12 : Int32) (fl_steps_a12 : Int32) (fl_reached_a12 : Int32) (fl_matchingAside_a12 : Int32) (x4_a12 : Int32) (x5_a12 : Int32) (x6_a12 : Int32) (x7_a12 : Int32) (fl_foldBits_o1 : Int32) (fl_passages_o2 : Int32) (fl_astray_o3 : Int32) (fl_loops_o4 : Int32) (fl_steps_o5 : Int32) (fl_reached_o6 : Int32) (fl_matchingAside_o7 : Int32) (x4_o8 : Int32), f_X5_bestVariant_L12 gr_nodes gr_links gr_start gr_end gr_wayLinks mk_bits bn_links x1 x2 x3 n fl_foldBits_a12 fl_passages_a12 fl_astray_a12 fl_loops_a12 fl_steps_a12 fl_reached_a12 fl_matchingAside_a12 x4_a12 x5_a12 x6_a12 x7_a12 = some (fl_foldBits_o1, fl_passages_o2, fl_astray_o3, fl_loops_o4, fl_steps_o5, fl_reached_o6, fl_matchingAside_o7, x4_o8) → (∀ (H : Heap) (locs : List Loc) (ls : Array Slot), va_P D vwCl (wdX cI cJ ad xx_netsRead xx_timesSent xx_passagesSent xx_astraySent xx_loopsSent pg_codes pg_length gr_nodes gr_links gr_start gr_end gr_linkBetween gr_wayLength gr_wayNext gr_wayLinks mk_width mk_drawn mk_seed mk_nextSeed mk_bits bn_links fl_foldBits_o1 fl_passages_o2 fl_astray_o3 fl_loops_o4 fl_steps_o5 fl_reached_o6 fl_matchingAside_o7) H → va_D A (wdX cI cJ ad xx_netsRead xx_timesSent xx_passagesSent xx_astraySent xx_loopsSent pg_codes pg_length gr_nodes gr_links gr_start gr_end gr_linkBetween gr_wayLength gr_wayNext gr_wayLinks mk_width mk_drawn mk_seed mk_nextSeed mk_bits bn_links fl_foldBits_o1 fl_passages_o2 fl_astray_o3 fl_loops_o4 fl_steps_o5 fl_reached_o6 fl_matchingAside_o7) → va_S A s.heap H locs → lv_has ls 9 [(4, .int x4_o8)] → W p l e rm_X5_bestVariant s m args below meth c H locs 0 0 Q (F0 m 108 ls [])) → ∀ (H : Heap) (locs : List Loc) (ls : Array Slot), va_P D vwCl (wdX cI cJ ad xx_netsRead xx_timesSent xx_passagesSent xx_astraySent xx_loopsSent pg_codes pg_length gr_nodes gr_links gr_start gr_end gr_linkBetween gr_wayLength gr_wayNext gr_wayLinks mk_width mk_drawn mk_seed mk_nextSeed mk_bits bn_links fl_foldBits_a12 fl_passages_a12 fl_astray_a12 fl_loops_a12 fl_steps_a12 fl_reached_a12 fl_matchingAside_a12) H → va_D A (wdX cI cJ ad xx_netsRead xx_timesSent xx_passagesSent xx_astraySent xx_loopsSent pg_codes pg_length gr_nodes gr_links gr_start gr_end gr_linkBetween gr_wayLength gr_wayNext gr_wayLinks mk_width mk_drawn mk_seed mk_nextSeed mk_bits bn_links fl_foldBits_a12 fl_passages_a12 fl_astray_a12 fl_loops_a12 fl_steps_a12 fl_reached_a12 fl_matchingAside_a12) → va_S A s.heap H locs → lv_has ls 9 [(0, .ref (ad 0)), (1, .int x1), (2, .int x2), (3, .int x3), (4, .int x4_a12), (5, .int x5_a12), (6, .int x6_a12), (7, .int x7_a12)] → W p l e rm_X5_bestVariant s m args below meth c H locs 0 0 Q (F0 m 12 ls []) := by
    intro n
    induction n with
    | zero =>
      intro fl_foldBits_a12 fl_passages_a12 fl_astray_a12 fl_loops_a12 fl_steps_a12 fl_reached_a12 fl_matchingAside_a12 x4_a12 x5_a12 x6_a12 x7_a12 fl_foldBits_o1 fl_passages_o2 fl_astray_o3 fl_loops_o4 fl_steps_o5 fl_reached_o6 fl_matchingAside_o7 x4_o8 h0
      exact oo_n h0
    | succ n ih =>
      intro fl_foldBits_a12 fl_passages_a12 fl_astray_a12 fl_loops_a12 fl_steps_a12 fl_reached_a12 fl_matchingAside_a12 x4_a12 x5_a12 x6_a12 x7_a12 fl_foldBits_o1 fl_passages_o2 fl_astray_o3 fl_loops_o4 fl_steps_o5 fl_reached_o6 fl_matchingAside_o7 x4_o8 hf kk H locs ls hP hD hS hl
      rw [f_X5_bestVariant_L12_s] at hf
      refine lv_iload hx hb dX5_bestVariant_12 (lv_at hl 7 rfl) ?_
      refine lv_iconst (v := (3 : Int32)) hx hb dX5_bestVariant_14 (by decide) ?_
      refine lv_icmp_ge (tgt := 108) hx hb dX5_bestVariant_15 (by decide) (fun c10 => ?_) (fun c10 => ?_)
      · have hf := oo_t hf c10
        cases hf
        exact kk _ _ _ hP hD hS (lv_sub hl [4] rfl)
      · have hf := oo_f hf c10
        refine lv_aload_n hx hb dX5_bestVariant_18 rfl (lv_at hl 0 rfl) ?_
        refine lv_iload_n hx hb dX5_bestVariant_19 rfl (lv_at hl 1 rfl) ?_
        refine lv_iload_n hx hb dX5_bestVariant_20 rfl (lv_at hl 2 rfl) ?_
        refine lv_iload hx hb dX5_bestVariant_21 (lv_at hl 7 rfl) ?_
        refine lv_iload_n hx hb dX5_bestVariant_23 rfl (lv_at hl 3 rfl) ?_
        obtain ⟨⟨fl_foldBits_12, fl_passages_13, fl_astray_14, fl_loops_15, fl_steps_16, fl_reached_17, fl_matchingAside_18⟩, h11, hf⟩ := oo_b hf
        try dsimp only at hf
        have F : Fr D A _ (wdX cI cJ ad xx_netsRead xx_timesSent xx_passagesSent xx_astraySent xx_loopsSent pg_codes pg_length gr_nodes gr_links gr_start gr_end gr_linkBetween gr_wayLength gr_wayNext gr_wayLinks mk_width mk_drawn mk_seed mk_nextSeed mk_bits bn_links fl_foldBits_a12 fl_passages_a12 fl_astray_a12 fl_loops_a12 fl_steps_a12 fl_reached_a12 fl_matchingAside_a12) (wdX cI cJ ad xx_netsRead xx_timesSent xx_passagesSent xx_astraySent xx_loopsSent pg_codes pg_length gr_nodes gr_links gr_start gr_end gr_linkBetween gr_wayLength gr_wayNext gr_wayLinks mk_width mk_drawn mk_seed mk_nextSeed mk_bits bn_links fl_foldBits_12 fl_passages_13 fl_astray_14 fl_loops_15 fl_steps_16 fl_reached_17 fl_matchingAside_18) (wdX cI cJ ad xx_netsRead xx_timesSent xx_passagesSent xx_astraySent xx_loopsSent pg_codes pg_length gr_nodes gr_links gr_start gr_end gr_linkBetween gr_wayLength gr_wayNext gr_wayLinks mk_width mk_drawn mk_seed mk_nextSeed mk_bits bn_links fl_foldBits_12 fl_passages_13 fl_astray_14 fl_loops_15 fl_steps_16 fl_reached_17 fl_matchingAside_18) := fr_self hP hD hS hA
        refine kV F hS (rV (q := (RX5, TX5, 10)) (As := [.int x1, .int x2, .int x7_a12, .int x3]) (rest := []) ⟨hx, hb, hml, hown, hts⟩ hK hN F (c_X5_spreadOut l D cI cJ ad _ (xx_netsRead := xx_netsRead) (xx_timesSent := xx_timesSent) (xx_passagesSent := xx_passagesSent) (xx_astraySent := xx_astraySent) (xx_loopsSent := xx_loopsSent) (pg_codes := pg_codes) (pg_length := pg_length) (gr_nodes := gr_nodes) (gr_links := gr_links) (gr_start := gr_start) (gr_end := gr_end) (gr_linkBetween := gr_linkBetween) (gr_wayLength := gr_wayLength) (gr_wayNext := gr_wayNext) (gr_wayLinks := gr_wayLinks) (mk_width := mk_width) (mk_drawn := mk_drawn) (mk_seed := mk_seed) (mk_nextSeed := mk_nextSeed) (mk_bits := mk_bits) (bn_links := bn_links) (fl_foldBits := fl_foldBits_a12) (fl_passages := fl_passages_a12) (fl_astray := fl_astray_a12) (fl_loops := fl_loops_a12) (fl_steps := fl_steps_a12) (fl_reached := fl_reached_a12) (fl_matchingAside := fl_matchingAside_a12) x1 x2 x7_a12 x3 (o_fl_foldBits := fl_foldBits_12) (o_fl_passages := fl_passages_13) (o_fl_astray := fl_astray_14) (o_fl_loops := fl_loops_15) (o_fl_steps := fl_steps_16) (o_fl_reached := fl_reached_17) (o_fl_matchingAside := fl_matchingAside_18) h11) (cwV 4 hts gX5_bestVariant_X5_spreadOut rfl rfl rfl (by decide +kernel) ⟨Nat.le_of_ble_eq_true rfl, Nat.le_of_ble_eq_true rfl⟩) (ci := 5) rfl rfl rfl hl.1 rfl (Nat.le_of_ble_eq_true rfl) dX5_bestVariant_24 ⟨Nat.zero_le _, Nat.zero_le _⟩) (fun H locs hP hD hS => ?_)
        refine lv_aload_n hx hb dX5_bestVariant_27 rfl (lv_at hl 0 rfl) ?_
        refine va_get (ci := 5) (v := .ref (ad 14)) (C := RX5) (T := TX5) (N := 10) hx hb hts hin_X5 hown hK hP 0 rfl rfl 4 (by decide) fl_40 (fun _ h9 => h9) rfl dX5_bestVariant_28 ?_
        refine va_get (ci := 1) (v := .int fl_astray_14) (C := RX1) (T := TX1) (N := 7) hx hb hts hin_X1 hown hK hP 14 rfl rfl 2 (by decide) fl_177 (fun _ h9 => h9) rfl dX5_bestVariant_31 ?_
        refine lv_iload hx hb dX5_bestVariant_34 (lv_at hl 5 rfl) ?_
        have kj21 : ∀ (k_20 : Int32), k_20 = (if fl_astray_14 < x5_a12 then (1 : Int32) else (if fl_astray_14 = x5_a12 then (if x6_a12 ≤ fl_foldBits_12 then (0 : Int32) else (1 : Int32)) else (0 : Int32))) → ∀ (H : Heap) (locs : List Loc) (ls : Array Slot), va_P D vwCl (wdX cI cJ ad xx_netsRead xx_timesSent xx_passagesSent xx_astraySent xx_loopsSent pg_codes pg_length gr_nodes gr_links gr_start gr_end gr_linkBetween gr_wayLength gr_wayNext gr_wayLinks mk_width mk_drawn mk_seed mk_nextSeed mk_bits bn_links fl_foldBits_12 fl_passages_13 fl_astray_14 fl_loops_15 fl_steps_16 fl_reached_17 fl_matchingAside_18) H → va_D A (wdX cI cJ ad xx_netsRead xx_timesSent xx_passagesSent xx_astraySent xx_loopsSent pg_codes pg_length gr_nodes gr_links gr_start gr_end gr_linkBetween gr_wayLength gr_wayNext gr_wayLinks mk_width mk_drawn mk_seed mk_nextSeed mk_bits bn_links fl_foldBits_12 fl_passages_13 fl_astray_14 fl_loops_15 fl_steps_16 fl_reached_17 fl_matchingAside_18) → va_S A s.heap H locs → lv_has ls 9 [(0, .ref (ad 0)), (1, .int x1), (2, .int x2), (3, .int x3), (4, .int x4_a12), (5, .int x5_a12), (6, .int x6_a12), (7, .int x7_a12)] → W p l e rm_X5_bestVariant s m args below meth c H locs 0 0 Q (F0 m 68 ls [.int k_20]) := by
          intro k_20 ek_20
          subst ek_20
          intro H locs ls hP hD hS hl
          refine lv_istore (lv' := [(8, .int (if fl_astray_14 < x5_a12 then (1 : Int32) else (if fl_astray_14 = x5_a12 then (if x6_a12 ≤ fl_foldBits_12 then (0 : Int32) else (1 : Int32)) else (0 : Int32)))), (0, .ref (ad 0)), (1, .int x1), (2, .int x2), (3, .int x3), (4, .int x4_a12), (5, .int x5_a12), (6, .int x6_a12), (7, .int x7_a12)]) hx hb dX5_bestVariant_68 hl (by decide) rfl (fun ls hl => ?_)
          refine lv_iload hx hb dX5_bestVariant_70 (lv_at hl 8 rfl) ?_
          obtain ⟨⟨x4_22, x5_23, x6_24⟩, hj26, hf⟩ := oo_b hf
          try dsimp only at hf
          have kj25 : ∀ (H : Heap) (locs : List Loc) (ls : Array Slot), va_P D vwCl (wdX cI cJ ad xx_netsRead xx_timesSent xx_passagesSent xx_astraySent xx_loopsSent pg_codes pg_length gr_nodes gr_links gr_start gr_end gr_linkBetween gr_wayLength gr_wayNext gr_wayLinks mk_width mk_drawn mk_seed mk_nextSeed mk_bits bn_links fl_foldBits_12 fl_passages_13 fl_astray_14 fl_loops_15 fl_steps_16 fl_reached_17 fl_matchingAside_18) H → va_D A (wdX cI cJ ad xx_netsRead xx_timesSent xx_passagesSent xx_astraySent xx_loopsSent pg_codes pg_length gr_nodes gr_links gr_start gr_end gr_linkBetween gr_wayLength gr_wayNext gr_wayLinks mk_width mk_drawn mk_seed mk_nextSeed mk_bits bn_links fl_foldBits_12 fl_passages_13 fl_astray_14 fl_loops_15 fl_steps_16 fl_reached_17 fl_matchingAside_18) → va_S A s.heap H locs → lv_has ls 9 [(0, .ref (ad 0)), (1, .int x1), (2, .int x2), (3, .int x3), (4, .int x4_22), (5, .int x5_23), (6, .int x6_24), (7, .int x7_a12)] → W p l e rm_X5_bestVariant s m args below meth c H locs 0 0 Q (F0 m 102 ls []) := by
            intro H locs ls hP hD hS hl
            refine lv_iinc (v := (x7_a12 + (1 : Int32))) (lv' := [(7, .int (x7_a12 + (1 : Int32))), (0, .ref (ad 0)), (1, .int x1), (2, .int x2), (3, .int x3), (4, .int x4_22), (5, .int x5_23), (6, .int x6_24)]) hx hb dX5_bestVariant_102 hl (k := 7) rfl rfl (by decide) rfl (fun ls hl => ?_)
            refine lv_goto (tgt := 12) hx hb dX5_bestVariant_105 (by decide) ?_
            exact ih fl_foldBits_12 fl_passages_13 fl_astray_14 fl_loops_15 fl_steps_16 fl_reached_17 fl_matchingAside_18 x4_22 x5_23 x6_24 (x7_a12 + (1 : Int32)) _ _ _ _ _ _ _ _ hf kk _ _ _ hP hD hS (lv_sub hl [1, 2, 3, 4, 5, 6, 7, 0] rfl)
          clear hf
          have hf := hj26
          clear hj26
          refine lv_if_eq (tgt := 80) hx hb dX5_bestVariant_72 (by decide) (fun c27 => ?_) (fun c27 => ?_)
          · have hf := oo_t hf c27
            refine lv_iload hx hb dX5_bestVariant_80 (lv_at hl 8 rfl) ?_
            refine lv_istore (lv' := [(4, .int x7_a12), (8, .int (if fl_astray_14 < x5_a12 then (1 : Int32) else (if fl_astray_14 = x5_a12 then (if x6_a12 ≤ fl_foldBits_12 then (0 : Int32) else (1 : Int32)) else (0 : Int32)))), (0, .ref (ad 0)), (1, .int x1), (2, .int x2), (3, .int x3), (5, .int x5_a12), (6, .int x6_a12), (7, .int x7_a12)]) hx hb dX5_bestVariant_82 hl (by decide) rfl (fun ls hl => ?_)
            refine lv_aload_n hx hb dX5_bestVariant_84 rfl (lv_at hl 2 rfl) ?_
            refine va_get (ci := 5) (v := .ref (ad 14)) (C := RX5) (T := TX5) (N := 10) hx hb hts hin_X5 hown hK hP 0 rfl rfl 4 (by decide) fl_40 (fun _ h9 => h9) rfl dX5_bestVariant_85 ?_
            refine va_get (ci := 1) (v := .int fl_astray_14) (C := RX1) (T := TX1) (N := 7) hx hb hts hin_X1 hown hK hP 14 rfl rfl 2 (by decide) fl_177 (fun _ h9 => h9) rfl dX5_bestVariant_88 ?_
            refine lv_istore (lv' := [(5, .int fl_astray_14), (4, .int x7_a12), (8, .int (if fl_astray_14 < x5_a12 then (1 : Int32) else (if fl_astray_14 = x5_a12 then (if x6_a12 ≤ fl_foldBits_12 then (0 : Int32) else (1 : Int32)) else (0 : Int32)))), (0, .ref (ad 0)), (1, .int x1), (2, .int x2), (3, .int x3), (6, .int x6_a12), (7, .int x7_a12)]) hx hb dX5_bestVariant_91 hl (by decide) rfl (fun ls hl => ?_)
            refine lv_aload_n hx hb dX5_bestVariant_93 rfl (lv_at hl 3 rfl) ?_
            refine va_get (ci := 5) (v := .ref (ad 14)) (C := RX5) (T := TX5) (N := 10) hx hb hts hin_X5 hown hK hP 0 rfl rfl 4 (by decide) fl_40 (fun _ h9 => h9) rfl dX5_bestVariant_94 ?_
            refine va_get (ci := 1) (v := .int fl_foldBits_12) (C := RX1) (T := TX1) (N := 7) hx hb hts hin_X1 hown hK hP 14 rfl rfl 0 (by decide) fl_225 (fun _ h9 => h9) rfl dX5_bestVariant_97 ?_
            refine lv_istore (lv' := [(6, .int fl_foldBits_12), (5, .int fl_astray_14), (4, .int x7_a12), (8, .int (if fl_astray_14 < x5_a12 then (1 : Int32) else (if fl_astray_14 = x5_a12 then (if x6_a12 ≤ fl_foldBits_12 then (0 : Int32) else (1 : Int32)) else (0 : Int32)))), (0, .ref (ad 0)), (1, .int x1), (2, .int x2), (3, .int x3), (7, .int x7_a12)]) hx hb dX5_bestVariant_100 hl (by decide) rfl (fun ls hl => ?_)
            cases hf
            exact kj25 _ _ _ hP hD hS (lv_sub hl [4, 5, 6, 7, 2, 1, 0, 8] rfl)
          · have hf := oo_f hf c27
            refine lv_iload hx hb dX5_bestVariant_75 (lv_at hl 0 rfl) ?_
            refine lv_if_eq (tgt := 102) hx hb dX5_bestVariant_77 (by decide) (fun c28 => ?_) (fun c28 => ?_)
            · have hf := oo_t hf c28
              cases hf
              exact kj25 _ _ _ hP hD hS (lv_sub hl [1, 2, 3, 4, 5, 6, 7, 8] rfl)
            · have hf := oo_f hf c28
              refine lv_iload hx hb dX5_bestVariant_80 (lv_at hl 8 rfl) ?_
              refine lv_istore (lv' := [(4, .int x7_a12), (8, .int (if fl_astray_14 < x5_a12 then (1 : Int32) else (if fl_astray_14 = x5_a12 then (if x6_a12 ≤ fl_foldBits_12 then (0 : Int32) else (1 : Int32)) else (0 : Int32)))), (0, .ref (ad 0)), (1, .int x1), (2, .int x2), (3, .int x3), (5, .int x5_a12), (6, .int x6_a12), (7, .int x7_a12)]) hx hb dX5_bestVariant_82 hl (by decide) rfl (fun ls hl => ?_)
              refine lv_aload_n hx hb dX5_bestVariant_84 rfl (lv_at hl 2 rfl) ?_
              refine va_get (ci := 5) (v := .ref (ad 14)) (C := RX5) (T := TX5) (N := 10) hx hb hts hin_X5 hown hK hP 0 rfl rfl 4 (by decide) fl_40 (fun _ h9 => h9) rfl dX5_bestVariant_85 ?_
              refine va_get (ci := 1) (v := .int fl_astray_14) (C := RX1) (T := TX1) (N := 7) hx hb hts hin_X1 hown hK hP 14 rfl rfl 2 (by decide) fl_177 (fun _ h9 => h9) rfl dX5_bestVariant_88 ?_
              refine lv_istore (lv' := [(5, .int fl_astray_14), (4, .int x7_a12), (8, .int (if fl_astray_14 < x5_a12 then (1 : Int32) else (if fl_astray_14 = x5_a12 then (if x6_a12 ≤ fl_foldBits_12 then (0 : Int32) else (1 : Int32)) else (0 : Int32)))), (0, .ref (ad 0)), (1, .int x1), (2, .int x2), (3, .int x3), (6, .int x6_a12), (7, .int x7_a12)]) hx hb dX5_bestVariant_91 hl (by decide) rfl (fun ls hl => ?_)
              refine lv_aload_n hx hb dX5_bestVariant_93 rfl (lv_at hl 3 rfl) ?_
              refine va_get (ci := 5) (v := .ref (ad 14)) (C := RX5) (T := TX5) (N := 10) hx hb hts hin_X5 hown hK hP 0 rfl rfl 4 (by decide) fl_40 (fun _ h9 => h9) rfl dX5_bestVariant_94 ?_
              refine va_get (ci := 1) (v := .int fl_foldBits_12) (C := RX1) (T := TX1) (N := 7) hx hb hts hin_X1 hown hK hP 14 rfl rfl 0 (by decide) fl_225 (fun _ h9 => h9) rfl dX5_bestVariant_97 ?_
              refine lv_istore (lv' := [(6, .int fl_foldBits_12), (5, .int fl_astray_14), (4, .int x7_a12), (8, .int (if fl_astray_14 < x5_a12 then (1 : Int32) else (if fl_astray_14 = x5_a12 then (if x6_a12 ≤ fl_foldBits_12 then (0 : Int32) else (1 : Int32)) else (0 : Int32)))), (0, .ref (ad 0)), (1, .int x1), (2, .int x2), (3, .int x3), (7, .int x7_a12)]) hx hb dX5_bestVariant_100 hl (by decide) rfl (fun ls hl => ?_)
              cases hf
              exact kj25 _ _ _ hP hD hS (lv_sub hl [4, 5, 6, 7, 2, 1, 0, 8] rfl)
        refine lv_icmp_lt (tgt := 63) hx hb dX5_bestVariant_36 (by decide) (fun c29 => ?_) (fun c29 => ?_)
        · refine lv_iconst (v := (1 : Int32)) hx hb dX5_bestVariant_63 (by decide) ?_
          refine lv_goto (tgt := 68) hx hb dX5_bestVariant_64 (by decide) ?_
          exact kj21 (1 : Int32) (if_pos c29).symm _ _ _ hP hD hS (lv_sub hl [0, 1, 2, 3, 4, 5, 6, 7] rfl)
        · refine lv_aload_n hx hb dX5_bestVariant_39 rfl (lv_at hl 0 rfl) ?_
          refine va_get (ci := 5) (v := .ref (ad 14)) (C := RX5) (T := TX5) (N := 10) hx hb hts hin_X5 hown hK hP 0 rfl rfl 4 (by decide) fl_40 (fun _ h9 => h9) rfl dX5_bestVariant_40 ?_
          refine va_get (ci := 1) (v := .int fl_astray_14) (C := RX1) (T := TX1) (N := 7) hx hb hts hin_X1 hown hK hP 14 rfl rfl 2 (by decide) fl_177 (fun _ h9 => h9) rfl dX5_bestVariant_43 ?_
          refine lv_iload hx hb dX5_bestVariant_46 (lv_at hl 5 rfl) ?_
          refine lv_icmp_ne (tgt := 67) hx hb dX5_bestVariant_48 (by decide) (fun c30 => ?_) (fun c30 => ?_)
          · refine lv_iconst (v := (0 : Int32)) hx hb dX5_bestVariant_67 (by decide) ?_
            exact kj21 (0 : Int32) ((if_neg c29).trans (if_neg c30)).symm _ _ _ hP hD hS (lv_sub hl [0, 1, 2, 3, 4, 5, 6, 7] rfl)
          · refine lv_aload_n hx hb dX5_bestVariant_51 rfl (lv_at hl 0 rfl) ?_
            refine va_get (ci := 5) (v := .ref (ad 14)) (C := RX5) (T := TX5) (N := 10) hx hb hts hin_X5 hown hK hP 0 rfl rfl 4 (by decide) fl_40 (fun _ h9 => h9) rfl dX5_bestVariant_52 ?_
            refine va_get (ci := 1) (v := .int fl_foldBits_12) (C := RX1) (T := TX1) (N := 7) hx hb hts hin_X1 hown hK hP 14 rfl rfl 0 (by decide) fl_225 (fun _ h9 => h9) rfl dX5_bestVariant_55 ?_
            refine lv_iload hx hb dX5_bestVariant_58 (lv_at hl 6 rfl) ?_
            refine lv_icmp_ge (tgt := 67) hx hb dX5_bestVariant_60 (by decide) (fun c31 => ?_) (fun c31 => ?_)
            · refine lv_iconst (v := (0 : Int32)) hx hb dX5_bestVariant_67 (by decide) ?_
              exact kj21 (0 : Int32) ((if_neg c29).trans ((if_pos c30).trans (if_pos c31))).symm _ _ _ hP hD hS (lv_sub hl [0, 1, 2, 3, 4, 5, 6, 7] rfl)
            · refine lv_iconst (v := (1 : Int32)) hx hb dX5_bestVariant_63 (by decide) ?_
              refine lv_goto (tgt := 68) hx hb dX5_bestVariant_64 (by decide) ?_
              exact kj21 (1 : Int32) ((if_neg c29).trans ((if_pos c30).trans (if_neg c31))).symm _ _ _ hP hD hS (lv_sub hl [0, 1, 2, 3, 4, 5, 6, 7] rfl)
  obtain ⟨⟨fl_foldBits_o1, fl_passages_o2, fl_astray_o3, fl_loops_o4, fl_steps_o5, fl_reached_o6, fl_matchingAside_o7, x4_o8⟩, h32, hf⟩ := oo_b hf
  try dsimp only at hf
  refine lp9  100 fl_foldBits fl_passages fl_astray fl_loops fl_steps fl_reached fl_matchingAside (0 : Int32) (0 : Int32) (0 : Int32) (0 : Int32) fl_foldBits_o1 fl_passages_o2 fl_astray_o3 fl_loops_o4 fl_steps_o5 fl_reached_o6 fl_matchingAside_o7 x4_o8 h32 (fun H locs ls hP hD hS hl => ?_) _ _ _ hP hD hS (lv_sub hl [4, 5, 6, 7, 3, 2, 1, 0] rfl)
  refine lv_iload hx hb dX5_bestVariant_108 (lv_at hl 0 rfl) ?_
  cases hf
  exact hret _ _ _ _ dX5_bestVariant_110 hP hD hS
