def f_X2_read_L20 (gr_nodes_a20 : Int32) (pg_codes : Nat → Int32) (pg_length : Int32) : Nat → Int32 → (Nat → Int32) → (Nat → Int32) → (Nat → Int32) → Int32 → Option (Int32 × (Nat → Int32) × (Nat → Int32) × (Nat → Int32))
  | 0, _, _, _, _, _ => none
  | n + 1, gr_links_a20, gr_start_a20, gr_end_a20, gr_linkBetween_a20, x2_a20 =>
      if (f_X4_pairCount pg_length) ≤ x2_a20 then
        some (gr_links_a20, gr_start_a20, gr_end_a20, gr_linkBetween_a20)
      else
        Option.bind (f_X4_firstOfPair pg_codes pg_length x2_a20) fun r20 =>
        Option.bind (f_X4_secondOfPair pg_codes pg_length x2_a20) fun r23 =>
        Option.bind (f_X2_addLink gr_nodes_a20 gr_links_a20 gr_start_a20 gr_end_a20 gr_linkBetween_a20 r20 r23) fun (gr_links_26, gr_start_27, gr_end_28, gr_linkBetween_29) =>
        Option.bind (f_X2_addLink gr_nodes_a20 gr_links_26 gr_start_27 gr_end_28 gr_linkBetween_29 r23 r20) fun (gr_links_32, gr_start_33, gr_end_34, gr_linkBetween_35) =>
        f_X2_read_L20 gr_nodes_a20 pg_codes pg_length n gr_links_32 gr_start_33 gr_end_34 gr_linkBetween_35 (x2_a20 + (1 : Int32))
theorem f_X2_read_L20_s (gr_nodes_a20 : Int32) (pg_codes : Nat → Int32) (pg_length : Int32) (n : Nat) (gr_links_a20 : Int32) (gr_start_a20 : Nat → Int32) (gr_end_a20 : Nat → Int32) (gr_linkBetween_a20 : Nat → Int32) (x2_a20 : Int32) : f_X2_read_L20 gr_nodes_a20 pg_codes pg_length (n + 1) gr_links_a20 gr_start_a20 gr_end_a20 gr_linkBetween_a20 x2_a20 =
      (if (f_X4_pairCount pg_length) ≤ x2_a20 then
        some (gr_links_a20, gr_start_a20, gr_end_a20, gr_linkBetween_a20)
      else
        Option.bind (f_X4_firstOfPair pg_codes pg_length x2_a20) fun r20 =>
        Option.bind (f_X4_secondOfPair pg_codes pg_length x2_a20) fun r23 =>
        Option.bind (f_X2_addLink gr_nodes_a20 gr_links_a20 gr_start_a20 gr_end_a20 gr_linkBetween_a20 r20 r23) fun (gr_links_26, gr_start_27, gr_end_28, gr_linkBetween_29) =>
        Option.bind (f_X2_addLink gr_nodes_a20 gr_links_26 gr_start_27 gr_end_28 gr_linkBetween_29 r23 r20) fun (gr_links_32, gr_start_33, gr_end_34, gr_linkBetween_35) =>
        f_X2_read_L20 gr_nodes_a20 pg_codes pg_length n gr_links_32 gr_start_33 gr_end_34 gr_linkBetween_35 (x2_a20 + (1 : Int32))) := rfl
def f_X2_read_L63 (gr_nodes_a63 : Int32) (gr_linkBetween_o15 : Nat → Int32) : Nat → (Nat → Int32) → (Nat → Int32) → (Nat → Int32) → Int32 → Option ((Nat → Int32) × (Nat → Int32) × (Nat → Int32))
  | 0, _, _, _, _ => none
  | n + 1, gr_wayLength_a63, gr_wayNext_a63, gr_wayLinks_a63, x2_a63 =>
      if gr_nodes_a63 ≤ x2_a63 then
        some (gr_wayLength_a63, gr_wayNext_a63, gr_wayLinks_a63)
      else
        Option.bind (f_X2_findWays gr_nodes_a63 gr_linkBetween_o15 gr_wayLength_a63 gr_wayNext_a63 gr_wayLinks_a63 x2_a63) fun (gr_wayLength_44, gr_wayNext_45, gr_wayLinks_46) =>
        f_X2_read_L63 gr_nodes_a63 gr_linkBetween_o15 n gr_wayLength_44 gr_wayNext_45 gr_wayLinks_46 (x2_a63 + (1 : Int32))
theorem f_X2_read_L63_s (gr_nodes_a63 : Int32) (gr_linkBetween_o15 : Nat → Int32) (n : Nat) (gr_wayLength_a63 : Nat → Int32) (gr_wayNext_a63 : Nat → Int32) (gr_wayLinks_a63 : Nat → Int32) (x2_a63 : Int32) : f_X2_read_L63 gr_nodes_a63 gr_linkBetween_o15 (n + 1) gr_wayLength_a63 gr_wayNext_a63 gr_wayLinks_a63 x2_a63 =
      (if gr_nodes_a63 ≤ x2_a63 then
        some (gr_wayLength_a63, gr_wayNext_a63, gr_wayLinks_a63)
      else
        Option.bind (f_X2_findWays gr_nodes_a63 gr_linkBetween_o15 gr_wayLength_a63 gr_wayNext_a63 gr_wayLinks_a63 x2_a63) fun (gr_wayLength_44, gr_wayNext_45, gr_wayLinks_46) =>
        f_X2_read_L63 gr_nodes_a63 gr_linkBetween_o15 n gr_wayLength_44 gr_wayNext_45 gr_wayLinks_46 (x2_a63 + (1 : Int32))) := rfl
def f_X2_read (gr_start : Nat → Int32) (gr_end : Nat → Int32) (gr_linkBetween : Nat → Int32) (gr_wayLength : Nat → Int32) (gr_wayNext : Nat → Int32) (gr_wayLinks : Nat → Int32) (pg_codes : Nat → Int32) (pg_length : Int32) : Option (Int32 × Int32 × (Nat → Int32) × (Nat → Int32) × (Nat → Int32) × (Nat → Int32) × (Nat → Int32) × (Nat → Int32)) :=
  Option.bind (f_X2_forget gr_linkBetween gr_wayLength gr_wayNext gr_wayLinks) fun (gr_nodes_2, gr_links_3, gr_linkBetween_4, gr_wayLength_5, gr_wayNext_6, gr_wayLinks_7) =>
  Option.bind (f_X4_digitAt pg_codes pg_length (0 : Int32)) fun r10 =>
  Option.bind (f_X2_read_L20 (if (6 : Int32) < r10 then (6 : Int32) else r10) pg_codes pg_length 100 gr_links_3 gr_start gr_end gr_linkBetween_4 (0 : Int32)) fun (gr_links_o12, gr_start_o13, gr_end_o14, gr_linkBetween_o15) =>
  Option.bind (f_X2_read_L63 (if (6 : Int32) < r10 then (6 : Int32) else r10) gr_linkBetween_o15 100 gr_wayLength_5 gr_wayNext_6 gr_wayLinks_7 (1 : Int32)) fun (gr_wayLength_o38, gr_wayNext_o39, gr_wayLinks_o40) =>
  some ((if (6 : Int32) < r10 then (6 : Int32) else r10), gr_links_o12, gr_start_o13, gr_end_o14, gr_linkBetween_o15, gr_wayLength_o38, gr_wayNext_o39, gr_wayLinks_o40)
abbrev rm_X2_read : Room := { frames := 3, cells := 0, slots := 0, locals := 69 }
set_option maxHeartbeats 4000000 in
set_option maxRecDepth 100000 in
theorem c_X2_read (l : Launch) (D : va_G) (cI cJ : ClassId) (ad : Nat → Nat) (sz : Nat) {gr_nodes gr_links : Int32} {gr_start gr_end gr_linkBetween gr_wayLength gr_wayNext gr_wayLinks pg_codes : Nat → Int32} {pg_length : Int32}  {o_gr_nodes : Int32} {o_gr_links : Int32} {o_gr_start : Nat → Int32} {o_gr_end : Nat → Int32} {o_gr_linkBetween : Nat → Int32} {o_gr_wayLength : Nat → Int32} {o_gr_wayNext : Nat → Int32} {o_gr_wayLinks : Nat → Int32} (hf : f_X2_read gr_start gr_end gr_linkBetween gr_wayLength gr_wayNext gr_wayLinks pg_codes pg_length = some (o_gr_nodes, o_gr_links, o_gr_start, o_gr_end, o_gr_linkBetween, o_gr_wayLength, o_gr_wayNext, o_gr_wayLinks)) : CtV l yX2_read wsX2_read rm_X2_read D cI cJ [.ref (ad 3), .ref (ad 1)] (wdGP cI cJ ad gr_nodes gr_links gr_start gr_end gr_linkBetween gr_wayLength gr_wayNext gr_wayLinks pg_codes pg_length) sz (wdGP cI cJ ad o_gr_nodes o_gr_links o_gr_start o_gr_end o_gr_linkBetween o_gr_wayLength o_gr_wayNext o_gr_wayLinks pg_codes pg_length) := by
  refine ctV_of (cc := cX2_read) (maxL := 5) (by decide) rfl (Nat.le_of_ble_eq_true rfl) ?_
  intro p e s m below meth c Q A hx hb hml hown hts hK hN hA hret ls hl hP hD hS
  obtain ⟨args, hargs⟩ : ∃ a : Array Value, a = [.ref (ad 3), .ref (ad 1)].toArray := ⟨_, rfl⟩
  rw [← hargs] at hts hret ⊢
  have hown : s.vm.findClass RX2 = some m.cls := hown
  have hl : lv_has ls 5 [(0, .ref (ad 3)), (1, .ref (ad 1))] := hl
  have hin_X2 : ∀ w ∈ wsX20, w ∈ wsX2_read := fun _ h => List.mem_cons_of_mem _ (List.mem_append_left _ (List.mem_append_right _ h))
  have fl_30 : (Cond.fieldLink RX2 30 "FoldedWays$Graph" "nodes" "I").before args s = true := hat hts 5 rfl
  unfold f_X2_read at hf
  refine lv_aload_n hx hb dX2_read_0 rfl (lv_at hl 0 rfl) ?_
  obtain ⟨⟨gr_nodes_2, gr_links_3, gr_linkBetween_4, gr_wayLength_5, gr_wayNext_6, gr_wayLinks_7⟩, h1, hf⟩ := oo_b hf
  try dsimp only at hf
  have F : Fr D A _ (wdG cI cJ ad gr_nodes gr_links gr_start gr_end gr_linkBetween gr_wayLength gr_wayNext gr_wayLinks) (wdG cI cJ ad gr_nodes_2 gr_links_3 gr_start gr_end gr_linkBetween_4 gr_wayLength_5 gr_wayNext_6 gr_wayLinks_7) (wdGP cI cJ ad gr_nodes_2 gr_links_3 gr_start gr_end gr_linkBetween_4 gr_wayLength_5 gr_wayNext_6 gr_wayLinks_7 pg_codes pg_length) := fr_GP_G hP hD hS hA
  refine kV F hS (rV (q := (RX2, TX2, 8)) (As := []) (rest := []) ⟨hx, hb, hml, hown, hts⟩ hK hN F (c_X2_forget l D cI cJ ad _ (gr_nodes := gr_nodes) (gr_links := gr_links) (gr_start := gr_start) (gr_end := gr_end) (gr_linkBetween := gr_linkBetween) (gr_wayLength := gr_wayLength) (gr_wayNext := gr_wayNext) (gr_wayLinks := gr_wayLinks)  (o_gr_nodes := gr_nodes_2) (o_gr_links := gr_links_3) (o_gr_linkBetween := gr_linkBetween_4) (o_gr_wayLength := gr_wayLength_5) (o_gr_wayNext := gr_wayNext_6) (o_gr_wayLinks := gr_wayLinks_7) h1) (cwV 0 hts gX2_read_X2_forget rfl rfl rfl (by decide +kernel) ⟨Nat.le_of_ble_eq_true rfl, Nat.le_of_ble_eq_true rfl⟩) (ci := 2) rfl rfl rfl hl.1 rfl (Nat.le_of_ble_eq_true rfl) dX2_read_1 ⟨Nat.zero_le _, Nat.zero_le _⟩) (fun H locs hP hD hS => ?_)
  refine lv_aload_n hx hb dX2_read_4 rfl (lv_at hl 0 rfl) ?_
  refine lv_aload_n hx hb dX2_read_5 rfl (lv_at hl 1 rfl) ?_
  refine lv_iconst (v := (0 : Int32)) hx hb dX2_read_6 (by decide) ?_
  obtain ⟨r10, h9, hf⟩ := oo_b hf
  try dsimp only at hf
  have F : Fr D A _ (wdPg cI cJ ad pg_codes pg_length) (wdPg cI cJ ad pg_codes pg_length) (wdGP cI cJ ad gr_nodes_2 gr_links_3 gr_start gr_end gr_linkBetween_4 gr_wayLength_5 gr_wayNext_6 gr_wayLinks_7 pg_codes pg_length) := fr_GP_Pg hP hD hS hA
  refine kI F hS (rV (q := (RX4, TX4, 2)) (As := [.int (0 : Int32)]) (rest := [.ref (ad 3)]) ⟨hx, hb, hml, hown, hts⟩ hK hN F (c_X4_digitAt l D cI cJ ad _ (pg_codes := pg_codes) (pg_length := pg_length) (0 : Int32) (o_res := r10) h9) (cwV 1 hts gX2_read_X4_digitAt rfl rfl rfl (by decide +kernel) ⟨Nat.le_of_ble_eq_true rfl, Nat.le_of_ble_eq_true rfl⟩) (ci := 4) rfl rfl rfl hl.1 rfl (Nat.le_of_ble_eq_true rfl) dX2_read_7 ⟨Nat.zero_le _, Nat.zero_le _⟩) (fun H locs hP hD hS => ?_)
  refine lv_bipush (v := (6 : Int32)) hx hb dX2_read_10 (by decide) ?_
  refine va_mmin hx hb (by rw [hml]; exact hl.1.symm) hown (hat hts 1 rfl) (hat hts 2 rfl) (hat hts 3 rfl) (hat hts 4 rfl) (Nat.le_of_ble_eq_true rfl) (Nat.le_of_ble_eq_true rfl) (Nat.le_of_ble_eq_true rfl) (Nat.le_of_ble_eq_true rfl) dX2_read_12 ?_
  refine va_put (ci := 2) (v := .int (if (6 : Int32) < r10 then (6 : Int32) else r10)) (ty := .int) (C := RX2) (T := TX2) (N := 8) hx hb hts hin_X2 tyX2 tyX2_ok nmX2 hown hK hP hD hS 0 rfl rfl 0 (by decide) fl_30 (fun _ h9 => h9) rfl (by decide +kernel) rfl rfl (Nat.le_of_ble_eq_true rfl) dX2_read_15 (fun H locs hP hD hS => ?_)
  have hP : va_P D vwCl (wdGP cI cJ ad (if (6 : Int32) < r10 then (6 : Int32) else r10) gr_links_3 gr_start gr_end gr_linkBetween_4 gr_wayLength_5 gr_wayNext_6 gr_wayLinks_7 pg_codes pg_length) H := hP
  have hD : va_D A (wdGP cI cJ ad (if (6 : Int32) < r10 then (6 : Int32) else r10) gr_links_3 gr_start gr_end gr_linkBetween_4 gr_wayLength_5 gr_wayNext_6 gr_wayLinks_7 pg_codes pg_length) := hD
  refine lv_iconst (v := (0 : Int32)) hx hb dX2_read_18 (by decide) ?_
  refine lv_istore_n (lv' := [(2, .int (0 : Int32)), (0, .ref (ad 3)), (1, .ref (ad 1))]) hx hb dX2_read_19 rfl hl (by decide) rfl (fun ls hl => ?_)
  have lp16 : ∀ (gr_nodes_a20 : Int32) (n : Nat) (gr_links_a20 : Int32) (gr_start_a20 : Nat → Int32) (gr_end_a20 : Nat → Int32) (gr_linkBetween_a20 : Nat → Int32) (x2_a20 : Int32) (gr_links_o12 : Int32) (gr_start_o13 : Nat → Int32) (gr_end_o14 : Nat → Int32) (gr_linkBetween_o15 : Nat → Int32), f_X2_read_L20 gr_nodes_a20 pg_codes pg_length n gr_links_a20 gr_start_a20 gr_end_a20 gr_linkBetween_a20 x2_a20 = some (gr_links_o12, gr_start_o13, gr_end_o14, gr_linkBetween_o15) → (∀ (H : Heap) (locs : List Loc) (ls : Array Slot), va_P D vwCl (wdGP cI cJ ad gr_nodes_a20 gr_links_o12 gr_start_o13 gr_end_o14 gr_linkBetween_o15 gr_wayLength_5 gr_wayNext_6 gr_wayLinks_7 pg_codes pg_length) H → va_D A (wdGP cI cJ ad gr_nodes_a20 gr_links_o12 gr_start_o13 gr_end_o14 gr_linkBetween_o15 gr_wayLength_5 gr_wayNext_6 gr_wayLinks_7 pg_codes pg_length) → va_S A s.heap H locs → lv_has ls 5 [(0, .ref (ad 3))] → W p l e rm_X2_read s m args below meth c H locs 0 0 Q (F0 m 61 ls [])) → ∀ (H : Heap) (locs : List Loc) (ls : Array Slot), va_P D vwCl (wdGP cI cJ ad gr_nodes_a20 gr_links_a20 gr_start_a20 gr_end_a20 gr_linkBetween_a20 gr_wayLength_5 gr_wayNext_6 gr_wayLinks_7 pg_codes pg_length) H → va_D A (wdGP cI cJ ad gr_nodes_a20 gr_links_a20 gr_start_a20 gr_end_a20 gr_linkBetween_a20 gr_wayLength_5 gr_wayNext_6 gr_wayLinks_7 pg_codes pg_length) → va_S A s.heap H locs → lv_has ls 5 [(0, .ref (ad 3)), (1, .ref (ad 1)), (2, .int x2_a20)] → W p l e rm_X2_read s m args below meth c H locs 0 0 Q (F0 m 20 ls []) := by
    intro gr_nodes_a20
    intro n
    induction n with
    | zero =>
      intro gr_links_a20 gr_start_a20 gr_end_a20 gr_linkBetween_a20 x2_a20 gr_links_o12 gr_start_o13 gr_end_o14 gr_linkBetween_o15 h0
      exact oo_n h0
    | succ n ih =>
      intro gr_links_a20 gr_start_a20 gr_end_a20 gr_linkBetween_a20 x2_a20 gr_links_o12 gr_start_o13 gr_end_o14 gr_linkBetween_o15 hf kk H locs ls hP hD hS hl
      rw [f_X2_read_L20_s] at hf
      refine lv_iload_n hx hb dX2_read_20 rfl (lv_at hl 2 rfl) ?_
      refine lv_aload_n hx hb dX2_read_21 rfl (lv_at hl 1 rfl) ?_
      have F : Fr D A _ (wdPg cI cJ ad pg_codes pg_length) (wdPg cI cJ ad pg_codes pg_length) (wdGP cI cJ ad gr_nodes_a20 gr_links_a20 gr_start_a20 gr_end_a20 gr_linkBetween_a20 gr_wayLength_5 gr_wayNext_6 gr_wayLinks_7 pg_codes pg_length) := fr_GP_Pg hP hD hS hA
      refine kI F hS (rV (q := (RX4, TX4, 2)) (As := []) (rest := [.int x2_a20]) ⟨hx, hb, hml, hown, hts⟩ hK hN F (c_X4_pairCount l D cI cJ ad _ (pg_codes := pg_codes) (pg_length := pg_length)  (o_res := (f_X4_pairCount pg_length)) rfl) (cwV 0 hts gX2_read_X4_pairCount rfl rfl rfl (by decide +kernel) ⟨Nat.le_of_ble_eq_true rfl, Nat.le_of_ble_eq_true rfl⟩) (ci := 4) rfl rfl rfl hl.1 rfl (Nat.le_of_ble_eq_true rfl) dX2_read_22 ⟨Nat.zero_le _, Nat.zero_le _⟩) (fun H locs hP hD hS => ?_)
      refine lv_icmp_ge (tgt := 61) hx hb dX2_read_25 (by decide) (fun c18 => ?_) (fun c18 => ?_)
      · have hf := oo_t hf c18
        cases hf
        exact kk _ _ _ hP hD hS (lv_sub hl [0] rfl)
      · have hf := oo_f hf c18
        refine lv_aload_n hx hb dX2_read_28 rfl (lv_at hl 1 rfl) ?_
        refine lv_iload_n hx hb dX2_read_29 rfl (lv_at hl 2 rfl) ?_
        obtain ⟨r20, h19, hf⟩ := oo_b hf
        try dsimp only at hf
        have F : Fr D A _ (wdPg cI cJ ad pg_codes pg_length) (wdPg cI cJ ad pg_codes pg_length) (wdGP cI cJ ad gr_nodes_a20 gr_links_a20 gr_start_a20 gr_end_a20 gr_linkBetween_a20 gr_wayLength_5 gr_wayNext_6 gr_wayLinks_7 pg_codes pg_length) := fr_GP_Pg hP hD hS hA
        refine kI F hS (rV (q := (RX4, TX4, 2)) (As := [.int x2_a20]) (rest := []) ⟨hx, hb, hml, hown, hts⟩ hK hN F (c_X4_firstOfPair l D cI cJ ad _ (pg_codes := pg_codes) (pg_length := pg_length) x2_a20 (o_res := r20) h19) (cwV 1 hts gX2_read_X4_firstOfPair rfl rfl rfl (by decide +kernel) ⟨Nat.le_of_ble_eq_true rfl, Nat.le_of_ble_eq_true rfl⟩) (ci := 4) rfl rfl rfl hl.1 rfl (Nat.le_of_ble_eq_true rfl) dX2_read_30 ⟨Nat.zero_le _, Nat.zero_le _⟩) (fun H locs hP hD hS => ?_)
        refine lv_istore_n (lv' := [(3, .int r20), (0, .ref (ad 3)), (1, .ref (ad 1)), (2, .int x2_a20)]) hx hb dX2_read_33 rfl hl (by decide) rfl (fun ls hl => ?_)
        refine lv_aload_n hx hb dX2_read_34 rfl (lv_at hl 2 rfl) ?_
        refine lv_iload_n hx hb dX2_read_35 rfl (lv_at hl 3 rfl) ?_
        obtain ⟨r23, h22, hf⟩ := oo_b hf
        try dsimp only at hf
        have F : Fr D A _ (wdPg cI cJ ad pg_codes pg_length) (wdPg cI cJ ad pg_codes pg_length) (wdGP cI cJ ad gr_nodes_a20 gr_links_a20 gr_start_a20 gr_end_a20 gr_linkBetween_a20 gr_wayLength_5 gr_wayNext_6 gr_wayLinks_7 pg_codes pg_length) := fr_GP_Pg hP hD hS hA
        refine kI F hS (rV (q := (RX4, TX4, 2)) (As := [.int x2_a20]) (rest := []) ⟨hx, hb, hml, hown, hts⟩ hK hN F (c_X4_secondOfPair l D cI cJ ad _ (pg_codes := pg_codes) (pg_length := pg_length) x2_a20 (o_res := r23) h22) (cwV 1 hts gX2_read_X4_secondOfPair rfl rfl rfl (by decide +kernel) ⟨Nat.le_of_ble_eq_true rfl, Nat.le_of_ble_eq_true rfl⟩) (ci := 4) rfl rfl rfl hl.1 rfl (Nat.le_of_ble_eq_true rfl) dX2_read_36 ⟨Nat.zero_le _, Nat.zero_le _⟩) (fun H locs hP hD hS => ?_)
        refine lv_istore (lv' := [(4, .int r23), (3, .int r20), (0, .ref (ad 3)), (1, .ref (ad 1)), (2, .int x2_a20)]) hx hb dX2_read_39 hl (by decide) rfl (fun ls hl => ?_)
        refine lv_aload_n hx hb dX2_read_41 rfl (lv_at hl 2 rfl) ?_
        refine lv_iload_n hx hb dX2_read_42 rfl (lv_at hl 1 rfl) ?_
        refine lv_iload hx hb dX2_read_43 (lv_at hl 0 rfl) ?_
        obtain ⟨⟨gr_links_26, gr_start_27, gr_end_28, gr_linkBetween_29⟩, h25, hf⟩ := oo_b hf
        try dsimp only at hf
        have F : Fr D A _ (wdG cI cJ ad gr_nodes_a20 gr_links_a20 gr_start_a20 gr_end_a20 gr_linkBetween_a20 gr_wayLength_5 gr_wayNext_6 gr_wayLinks_7) (wdG cI cJ ad gr_nodes_a20 gr_links_26 gr_start_27 gr_end_28 gr_linkBetween_29 gr_wayLength_5 gr_wayNext_6 gr_wayLinks_7) (wdGP cI cJ ad gr_nodes_a20 gr_links_26 gr_start_27 gr_end_28 gr_linkBetween_29 gr_wayLength_5 gr_wayNext_6 gr_wayLinks_7 pg_codes pg_length) := fr_GP_G hP hD hS hA
        refine kV F hS (rV (q := (RX2, TX2, 8)) (As := [.int r20, .int r23]) (rest := []) ⟨hx, hb, hml, hown, hts⟩ hK hN F (c_X2_addLink l D cI cJ ad _ (gr_nodes := gr_nodes_a20) (gr_links := gr_links_a20) (gr_start := gr_start_a20) (gr_end := gr_end_a20) (gr_linkBetween := gr_linkBetween_a20) (gr_wayLength := gr_wayLength_5) (gr_wayNext := gr_wayNext_6) (gr_wayLinks := gr_wayLinks_7) r20 r23 (o_gr_links := gr_links_26) (o_gr_start := gr_start_27) (o_gr_end := gr_end_28) (o_gr_linkBetween := gr_linkBetween_29) h25) (cwV 2 hts gX2_read_X2_addLink rfl rfl rfl (by decide +kernel) ⟨Nat.le_of_ble_eq_true rfl, Nat.le_of_ble_eq_true rfl⟩) (ci := 2) rfl rfl rfl hl.1 rfl (Nat.le_of_ble_eq_true rfl) dX2_read_45 ⟨Nat.zero_le _, Nat.zero_le _⟩) (fun H locs hP hD hS => ?_)
        refine lv_aload_n hx hb dX2_read_48 rfl (lv_at hl 2 rfl) ?_
        refine lv_iload hx hb dX2_read_49 (lv_at hl 0 rfl) ?_
        refine lv_iload_n hx hb dX2_read_51 rfl (lv_at hl 1 rfl) ?_
        obtain ⟨⟨gr_links_32, gr_start_33, gr_end_34, gr_linkBetween_35⟩, h31, hf⟩ := oo_b hf
        try dsimp only at hf
        have F : Fr D A _ (wdG cI cJ ad gr_nodes_a20 gr_links_26 gr_start_27 gr_end_28 gr_linkBetween_29 gr_wayLength_5 gr_wayNext_6 gr_wayLinks_7) (wdG cI cJ ad gr_nodes_a20 gr_links_32 gr_start_33 gr_end_34 gr_linkBetween_35 gr_wayLength_5 gr_wayNext_6 gr_wayLinks_7) (wdGP cI cJ ad gr_nodes_a20 gr_links_32 gr_start_33 gr_end_34 gr_linkBetween_35 gr_wayLength_5 gr_wayNext_6 gr_wayLinks_7 pg_codes pg_length) := fr_GP_G hP hD hS hA
        refine kV F hS (rV (q := (RX2, TX2, 8)) (As := [.int r23, .int r20]) (rest := []) ⟨hx, hb, hml, hown, hts⟩ hK hN F (c_X2_addLink l D cI cJ ad _ (gr_nodes := gr_nodes_a20) (gr_links := gr_links_26) (gr_start := gr_start_27) (gr_end := gr_end_28) (gr_linkBetween := gr_linkBetween_29) (gr_wayLength := gr_wayLength_5) (gr_wayNext := gr_wayNext_6) (gr_wayLinks := gr_wayLinks_7) r23 r20 (o_gr_links := gr_links_32) (o_gr_start := gr_start_33) (o_gr_end := gr_end_34) (o_gr_linkBetween := gr_linkBetween_35) h31) (cwV 2 hts gX2_read_X2_addLink rfl rfl rfl (by decide +kernel) ⟨Nat.le_of_ble_eq_true rfl, Nat.le_of_ble_eq_true rfl⟩) (ci := 2) rfl rfl rfl hl.1 rfl (Nat.le_of_ble_eq_true rfl) dX2_read_52 ⟨Nat.zero_le _, Nat.zero_le _⟩) (fun H locs hP hD hS => ?_)
        refine lv_iinc (v := (x2_a20 + (1 : Int32))) (lv' := [(2, .int (x2_a20 + (1 : Int32))), (4, .int r23), (3, .int r20), (0, .ref (ad 3)), (1, .ref (ad 1))]) hx hb dX2_read_55 hl (k := 4) rfl rfl (by decide) rfl (fun ls hl => ?_)
        refine lv_goto (tgt := 20) hx hb dX2_read_58 (by decide) ?_
        exact ih gr_links_32 gr_start_33 gr_end_34 gr_linkBetween_35 (x2_a20 + (1 : Int32)) _ _ _ _ hf kk _ _ _ hP hD hS (lv_sub hl [3, 4, 0] rfl)
  obtain ⟨⟨gr_links_o12, gr_start_o13, gr_end_o14, gr_linkBetween_o15⟩, h37, hf⟩ := oo_b hf
  try dsimp only at hf
  refine lp16 (if (6 : Int32) < r10 then (6 : Int32) else r10) 100 gr_links_3 gr_start gr_end gr_linkBetween_4 (0 : Int32) gr_links_o12 gr_start_o13 gr_end_o14 gr_linkBetween_o15 h37 (fun H locs ls hP hD hS hl => ?_) _ _ _ hP hD hS (lv_sub hl [1, 2, 0] rfl)
  refine lv_iconst (v := (1 : Int32)) hx hb dX2_read_61 (by decide) ?_
  refine lv_istore_n (lv' := [(2, .int (1 : Int32)), (0, .ref (ad 3))]) hx hb dX2_read_62 rfl hl (by decide) rfl (fun ls hl => ?_)
  have lp41 : ∀ (gr_nodes_a63 : Int32) (n : Nat) (gr_wayLength_a63 : Nat → Int32) (gr_wayNext_a63 : Nat → Int32) (gr_wayLinks_a63 : Nat → Int32) (x2_a63 : Int32) (gr_wayLength_o38 : Nat → Int32) (gr_wayNext_o39 : Nat → Int32) (gr_wayLinks_o40 : Nat → Int32), f_X2_read_L63 gr_nodes_a63 gr_linkBetween_o15 n gr_wayLength_a63 gr_wayNext_a63 gr_wayLinks_a63 x2_a63 = some (gr_wayLength_o38, gr_wayNext_o39, gr_wayLinks_o40) → (∀ (H : Heap) (locs : List Loc) (ls : Array Slot), va_P D vwCl (wdGP cI cJ ad gr_nodes_a63 gr_links_o12 gr_start_o13 gr_end_o14 gr_linkBetween_o15 gr_wayLength_o38 gr_wayNext_o39 gr_wayLinks_o40 pg_codes pg_length) H → va_D A (wdGP cI cJ ad gr_nodes_a63 gr_links_o12 gr_start_o13 gr_end_o14 gr_linkBetween_o15 gr_wayLength_o38 gr_wayNext_o39 gr_wayLinks_o40 pg_codes pg_length) → va_S A s.heap H locs → lv_has ls 5 [] → W p l e rm_X2_read s m args below meth c H locs 0 0 Q (F0 m 82 ls [])) → ∀ (H : Heap) (locs : List Loc) (ls : Array Slot), va_P D vwCl (wdGP cI cJ ad gr_nodes_a63 gr_links_o12 gr_start_o13 gr_end_o14 gr_linkBetween_o15 gr_wayLength_a63 gr_wayNext_a63 gr_wayLinks_a63 pg_codes pg_length) H → va_D A (wdGP cI cJ ad gr_nodes_a63 gr_links_o12 gr_start_o13 gr_end_o14 gr_linkBetween_o15 gr_wayLength_a63 gr_wayNext_a63 gr_wayLinks_a63 pg_codes pg_length) → va_S A s.heap H locs → lv_has ls 5 [(0, .ref (ad 3)), (2, .int x2_a63)] → W p l e rm_X2_read s m args below meth c H locs 0 0 Q (F0 m 63 ls []) := by
    intro gr_nodes_a63
    intro n
    induction n with
    | zero =>
      intro gr_wayLength_a63 gr_wayNext_a63 gr_wayLinks_a63 x2_a63 gr_wayLength_o38 gr_wayNext_o39 gr_wayLinks_o40 h0
      exact oo_n h0
    | succ n ih =>
      intro gr_wayLength_a63 gr_wayNext_a63 gr_wayLinks_a63 x2_a63 gr_wayLength_o38 gr_wayNext_o39 gr_wayLinks_o40 hf kk H locs ls hP hD hS hl
      rw [f_X2_read_L63_s] at hf
      refine lv_iload_n hx hb dX2_read_63 rfl (lv_at hl 1 rfl) ?_
      refine lv_aload_n hx hb dX2_read_64 rfl (lv_at hl 0 rfl) ?_
      refine va_get (ci := 2) (v := .int gr_nodes_a63) (C := RX2) (T := TX2) (N := 8) hx hb hts hin_X2 hown hK hP 0 rfl rfl 0 (by decide) fl_30 (fun _ h9 => h9) rfl dX2_read_65 ?_
      refine lv_icmp_ge (tgt := 82) hx hb dX2_read_68 (by decide) (fun c42 => ?_) (fun c42 => ?_)
      · have hf := oo_t hf c42
        cases hf
        exact kk _ _ _ hP hD hS (lv_sub hl [] rfl)
      · have hf := oo_f hf c42
        refine lv_aload_n hx hb dX2_read_71 rfl (lv_at hl 0 rfl) ?_
        refine lv_iload_n hx hb dX2_read_72 rfl (lv_at hl 1 rfl) ?_
        obtain ⟨⟨gr_wayLength_44, gr_wayNext_45, gr_wayLinks_46⟩, h43, hf⟩ := oo_b hf
        try dsimp only at hf
        have F : Fr D A _ (wdG cI cJ ad gr_nodes_a63 gr_links_o12 gr_start_o13 gr_end_o14 gr_linkBetween_o15 gr_wayLength_a63 gr_wayNext_a63 gr_wayLinks_a63) (wdG cI cJ ad gr_nodes_a63 gr_links_o12 gr_start_o13 gr_end_o14 gr_linkBetween_o15 gr_wayLength_44 gr_wayNext_45 gr_wayLinks_46) (wdGP cI cJ ad gr_nodes_a63 gr_links_o12 gr_start_o13 gr_end_o14 gr_linkBetween_o15 gr_wayLength_44 gr_wayNext_45 gr_wayLinks_46 pg_codes pg_length) := fr_GP_G hP hD hS hA
        refine kV F hS (rV (q := (RX2, TX2, 8)) (As := [.int x2_a63]) (rest := []) ⟨hx, hb, hml, hown, hts⟩ hK hN F (c_X2_findWays l D cI cJ ad _ (gr_nodes := gr_nodes_a63) (gr_links := gr_links_o12) (gr_start := gr_start_o13) (gr_end := gr_end_o14) (gr_linkBetween := gr_linkBetween_o15) (gr_wayLength := gr_wayLength_a63) (gr_wayNext := gr_wayNext_a63) (gr_wayLinks := gr_wayLinks_a63) x2_a63 (o_gr_wayLength := gr_wayLength_44) (o_gr_wayNext := gr_wayNext_45) (o_gr_wayLinks := gr_wayLinks_46) h43) (cwV 1 hts gX2_read_X2_findWays rfl rfl rfl (by decide +kernel) ⟨Nat.le_of_ble_eq_true rfl, Nat.le_of_ble_eq_true rfl⟩) (ci := 2) rfl rfl rfl hl.1 rfl (Nat.le_of_ble_eq_true rfl) dX2_read_73 ⟨Nat.zero_le _, Nat.zero_le _⟩) (fun H locs hP hD hS => ?_)
        refine lv_iinc (v := (x2_a63 + (1 : Int32))) (lv' := [(2, .int (x2_a63 + (1 : Int32))), (0, .ref (ad 3))]) hx hb dX2_read_76 hl (k := 1) rfl rfl (by decide) rfl (fun ls hl => ?_)
        refine lv_goto (tgt := 63) hx hb dX2_read_79 (by decide) ?_
        exact ih gr_wayLength_44 gr_wayNext_45 gr_wayLinks_46 (x2_a63 + (1 : Int32)) _ _ _ hf kk _ _ _ hP hD hS (lv_sub hl [1, 0] rfl)
  obtain ⟨⟨gr_wayLength_o38, gr_wayNext_o39, gr_wayLinks_o40⟩, h48, hf⟩ := oo_b hf
  try dsimp only at hf
  refine lp41 (if (6 : Int32) < r10 then (6 : Int32) else r10) 100 gr_wayLength_5 gr_wayNext_6 gr_wayLinks_7 (1 : Int32) gr_wayLength_o38 gr_wayNext_o39 gr_wayLinks_o40 h48 (fun H locs ls hP hD hS hl => ?_) _ _ _ hP hD hS (lv_sub hl [1, 0] rfl)
  cases hf
  exact hret _ _ _ _ dX2_read_82 hP hD hS
def f_X2_nodeOnWay_L44 (gr_nodes : Int32) (gr_wayNext : Nat → Int32) (x2 : Int32) (x3 : Int32) : Nat → Int32 → Int32 → Option (Int32)
  | 0, _, _ => none
  | n + 1, x4_a44, x5_a44 =>
      if x3 ≤ x5_a44 then
        some x4_a44
      else
        if (f_X2_hasNode gr_nodes x4_a44) = (0 : Int32) then
          some x4_a44
        else
          if (f_X2_at x4_a44 x2) < 0 ∨ 36 ≤ ((f_X2_at x4_a44 x2)).toNatClampNeg then none else
          f_X2_nodeOnWay_L44 gr_nodes gr_wayNext x2 x3 n (gr_wayNext ((f_X2_at x4_a44 x2)).toNatClampNeg) (x5_a44 + (1 : Int32))
theorem f_X2_nodeOnWay_L44_s (gr_nodes : Int32) (gr_wayNext : Nat → Int32) (x2 : Int32) (x3 : Int32) (n : Nat) (x4_a44 : Int32) (x5_a44 : Int32) : f_X2_nodeOnWay_L44 gr_nodes gr_wayNext x2 x3 (n + 1) x4_a44 x5_a44 =
      (if x3 ≤ x5_a44 then
        some x4_a44
      else
        if (f_X2_hasNode gr_nodes x4_a44) = (0 : Int32) then
          some x4_a44
        else
          if (f_X2_at x4_a44 x2) < 0 ∨ 36 ≤ ((f_X2_at x4_a44 x2)).toNatClampNeg then none else
          f_X2_nodeOnWay_L44 gr_nodes gr_wayNext x2 x3 n (gr_wayNext ((f_X2_at x4_a44 x2)).toNatClampNeg) (x5_a44 + (1 : Int32))) := rfl
def f_X2_nodeOnWay (gr_nodes : Int32) (gr_wayLength : Nat → Int32) (gr_wayNext : Nat → Int32) (x1 : Int32) (x2 : Int32) (x3 : Int32) : Option (Int32) :=
  if (f_X2_hasNode gr_nodes x1) = (0 : Int32) then
    some (-1 : Int32)
  else
    if (f_X2_hasNode gr_nodes x2) = (0 : Int32) then
      some (-1 : Int32)
    else
      if x3 < (0 : Int32) then
        some (-1 : Int32)
      else
        if (f_X2_at x1 x2) < 0 ∨ 36 ≤ ((f_X2_at x1 x2)).toNatClampNeg then none else
        if x3 ≤ (gr_wayLength ((f_X2_at x1 x2)).toNatClampNeg) then
          Option.bind (f_X2_nodeOnWay_L44 gr_nodes gr_wayNext x2 x3 100 x1 (0 : Int32)) fun x4_o9 =>
          some x4_o9
        else
          some (-1 : Int32)
abbrev rm_X2_nodeOnWay : Room := { frames := 1, cells := 0, slots := 0, locals := 21 }
set_option maxHeartbeats 4000000 in
set_option maxRecDepth 100000 in
theorem c_X2_nodeOnWay (l : Launch) (D : va_G) (cI cJ : ClassId) (ad : Nat → Nat) (sz : Nat) {gr_nodes gr_links : Int32} {gr_start gr_end gr_linkBetween gr_wayLength gr_wayNext gr_wayLinks : Nat → Int32} (x1 : Int32) (x2 : Int32) (x3 : Int32) {o_res : Int32} (hf : f_X2_nodeOnWay gr_nodes gr_wayLength gr_wayNext x1 x2 x3 = some o_res) : CtI l yX2_nodeOnWay wsX2_nodeOnWay rm_X2_nodeOnWay D cI cJ [.ref (ad 3), .int x1, .int x2, .int x3] (wdG cI cJ ad gr_nodes gr_links gr_start gr_end gr_linkBetween gr_wayLength gr_wayNext gr_wayLinks) sz o_res (wdG cI cJ ad gr_nodes gr_links gr_start gr_end gr_linkBetween gr_wayLength gr_wayNext gr_wayLinks) := by
  refine ctI_of (cc := cX2_nodeOnWay) (maxL := 6) (by decide) rfl (Nat.le_of_ble_eq_true rfl) ?_
  intro p e s m below meth c Q A hx hb hml hown hts hK hN hA hret ls hl hP hD hS
  obtain ⟨args, hargs⟩ : ∃ a : Array Value, a = [.ref (ad 3), .int x1, .int x2, .int x3].toArray := ⟨_, rfl⟩
  rw [← hargs] at hts hret ⊢
  have hown : s.vm.findClass RX2 = some m.cls := hown
  have hl : lv_has ls 6 [(0, .ref (ad 3)), (1, .int x1), (2, .int x2), (3, .int x3)] := hl
  have hin_X2 : ∀ w ∈ wsX20, w ∈ wsX2_nodeOnWay := fun _ h => List.mem_cons_of_mem _ (List.mem_append_right _ h)
  have fl_21 : (Cond.fieldLink RX2 21 "FoldedWays$Graph" "wayLength" "[I").before args s = true := hat hts 1 rfl
  have fl_24 : (Cond.fieldLink RX2 24 "FoldedWays$Graph" "wayNext" "[I").before args s = true := hat hts 2 rfl
  unfold f_X2_nodeOnWay at hf
  refine lv_aload_n hx hb dX2_nodeOnWay_0 rfl (lv_at hl 0 rfl) ?_
  refine lv_iload_n hx hb dX2_nodeOnWay_1 rfl (lv_at hl 1 rfl) ?_
  have F : Fr D A _ (wdG cI cJ ad gr_nodes gr_links gr_start gr_end gr_linkBetween gr_wayLength gr_wayNext gr_wayLinks) (wdG cI cJ ad gr_nodes gr_links gr_start gr_end gr_linkBetween gr_wayLength gr_wayNext gr_wayLinks) (wdG cI cJ ad gr_nodes gr_links gr_start gr_end gr_linkBetween gr_wayLength gr_wayNext gr_wayLinks) := fr_self hP hD hS hA
  refine kZ F hS (rV (q := (RX2, TX2, 8)) (As := [.int x1]) (rest := []) ⟨hx, hb, hml, hown, hts⟩ hK hN F (c_X2_hasNode l D cI cJ ad _ (gr_nodes := gr_nodes) (gr_links := gr_links) (gr_start := gr_start) (gr_end := gr_end) (gr_linkBetween := gr_linkBetween) (gr_wayLength := gr_wayLength) (gr_wayNext := gr_wayNext) (gr_wayLinks := gr_wayLinks) x1 (o_res := (f_X2_hasNode gr_nodes x1)) rfl) (cwV 1 hts gX2_nodeOnWay_X2_hasNode rfl rfl rfl (by decide +kernel) ⟨Nat.le_of_ble_eq_true rfl, Nat.le_of_ble_eq_true rfl⟩) (ci := 2) rfl rfl rfl hl.1 rfl (Nat.le_of_ble_eq_true rfl) dX2_nodeOnWay_2 ⟨Nat.zero_le _, Nat.zero_le _⟩) (fun H locs hb1 hP hD hS => ?_)
  refine lv_if_eq (tgt := 16) hx hb dX2_nodeOnWay_5 (by decide) (fun c2 => ?_) (fun c2 => ?_)
  · have hf := oo_t hf c2
    refine lv_iconst (v := (-1 : Int32)) hx hb dX2_nodeOnWay_16 (by decide) ?_
    cases hf
    exact hret _ _ _ _ dX2_nodeOnWay_17 hP hD hS
  · have hf := oo_f hf c2
    refine lv_aload_n hx hb dX2_nodeOnWay_8 rfl (lv_at hl 0 rfl) ?_
    refine lv_iload_n hx hb dX2_nodeOnWay_9 rfl (lv_at hl 2 rfl) ?_
    have F : Fr D A _ (wdG cI cJ ad gr_nodes gr_links gr_start gr_end gr_linkBetween gr_wayLength gr_wayNext gr_wayLinks) (wdG cI cJ ad gr_nodes gr_links gr_start gr_end gr_linkBetween gr_wayLength gr_wayNext gr_wayLinks) (wdG cI cJ ad gr_nodes gr_links gr_start gr_end gr_linkBetween gr_wayLength gr_wayNext gr_wayLinks) := fr_self hP hD hS hA
    refine kZ F hS (rV (q := (RX2, TX2, 8)) (As := [.int x2]) (rest := []) ⟨hx, hb, hml, hown, hts⟩ hK hN F (c_X2_hasNode l D cI cJ ad _ (gr_nodes := gr_nodes) (gr_links := gr_links) (gr_start := gr_start) (gr_end := gr_end) (gr_linkBetween := gr_linkBetween) (gr_wayLength := gr_wayLength) (gr_wayNext := gr_wayNext) (gr_wayLinks := gr_wayLinks) x2 (o_res := (f_X2_hasNode gr_nodes x2)) rfl) (cwV 1 hts gX2_nodeOnWay_X2_hasNode rfl rfl rfl (by decide +kernel) ⟨Nat.le_of_ble_eq_true rfl, Nat.le_of_ble_eq_true rfl⟩) (ci := 2) rfl rfl rfl hl.1 rfl (Nat.le_of_ble_eq_true rfl) dX2_nodeOnWay_10 ⟨Nat.zero_le _, Nat.zero_le _⟩) (fun H locs hb3 hP hD hS => ?_)
    refine lv_if_ne (tgt := 18) hx hb dX2_nodeOnWay_13 (by decide) (fun c4 => ?_) (fun c4 => ?_)
    · have hf := oo_f hf c4
      refine lv_iload_n hx hb dX2_nodeOnWay_18 rfl (lv_at hl 3 rfl) ?_
      refine lv_if_lt (tgt := 36) hx hb dX2_nodeOnWay_19 (by decide) (fun c5 => ?_) (fun c5 => ?_)
      · have hf := oo_t hf c5
        refine lv_iconst (v := (-1 : Int32)) hx hb dX2_nodeOnWay_36 (by decide) ?_
        cases hf
        exact hret _ _ _ _ dX2_nodeOnWay_37 hP hD hS
      · have hf := oo_f hf c5
        refine lv_iload_n hx hb dX2_nodeOnWay_22 rfl (lv_at hl 3 rfl) ?_
        refine lv_aload_n hx hb dX2_nodeOnWay_23 rfl (lv_at hl 0 rfl) ?_
        refine va_get (ci := 2) (v := .ref (ad 7)) (C := RX2) (T := TX2) (N := 8) hx hb hts hin_X2 hown hK hP 0 rfl rfl 5 (by decide) fl_21 (fun _ h9 => h9) rfl dX2_nodeOnWay_24 ?_
        refine lv_iload_n hx hb dX2_nodeOnWay_27 rfl (lv_at hl 1 rfl) ?_
        refine lv_iload_n hx hb dX2_nodeOnWay_28 rfl (lv_at hl 2 rfl) ?_
        have F : Fr D A _ [] [] (wdG cI cJ ad gr_nodes gr_links gr_start gr_end gr_linkBetween gr_wayLength gr_wayNext gr_wayLinks) := fr_nil hP hD hS hA
        refine kI F hS (rS (As := [.int x1, .int x2]) (rest := [.ref (ad 7), .int x3]) ⟨hx, hb, hml, hown, hts⟩ hK hN F (c_X2_at l D cI cJ ad _  x1 x2 (o_res := (f_X2_at x1 x2)) rfl) (cwS 2 hts gX2_nodeOnWay_X2_at rfl rfl rfl (by decide +kernel) ⟨Nat.le_of_ble_eq_true rfl, Nat.le_of_ble_eq_true rfl⟩) rfl hl.1 rfl (Nat.le_of_ble_eq_true rfl) dX2_nodeOnWay_29 ⟨Nat.zero_le _, Nat.zero_le _⟩) (fun H locs hP hD hS => ?_)
        obtain ⟨g7, hf⟩ := oo_g hf
        refine va_iald hx hb hK hP 4 0 rfl rfl g7 dX2_nodeOnWay_32 ?_
        refine lv_icmp_le (tgt := 38) hx hb dX2_nodeOnWay_33 (by decide) (fun c8 => ?_) (fun c8 => ?_)
        · have hf := oo_t hf c8
          refine lv_iload_n hx hb dX2_nodeOnWay_38 rfl (lv_at hl 1 rfl) ?_
          refine lv_istore (lv' := [(4, .int x1), (0, .ref (ad 3)), (1, .int x1), (2, .int x2), (3, .int x3)]) hx hb dX2_nodeOnWay_39 hl (by decide) rfl (fun ls hl => ?_)
          refine lv_iconst (v := (0 : Int32)) hx hb dX2_nodeOnWay_41 (by decide) ?_
          refine lv_istore (lv' := [(5, .int (0 : Int32)), (4, .int x1), (0, .ref (ad 3)), (1, .int x1), (2, .int x2), (3, .int x3)]) hx hb dX2_nodeOnWay_42 hl (by decide) rfl (fun ls hl => ?_)
          have lp10 : ∀ (n : Nat) (x4_a44 : Int32) (x5_a44 : Int32) (x4_o9 : Int32), f_X2_nodeOnWay_L44 gr_nodes gr_wayNext x2 x3 n x4_a44 x5_a44 = some x4_o9 → (∀ (H : Heap) (locs : List Loc) (ls : Array Slot), va_P D vwCl (wdG cI cJ ad gr_nodes gr_links gr_start gr_end gr_linkBetween gr_wayLength gr_wayNext gr_wayLinks) H → va_D A (wdG cI cJ ad gr_nodes gr_links gr_start gr_end gr_linkBetween gr_wayLength gr_wayNext gr_wayLinks) → va_S A s.heap H locs → lv_has ls 6 [(4, .int x4_o9)] → W p l e rm_X2_nodeOnWay s m args below meth c H locs 0 0 Q (F0 m 78 ls [])) → ∀ (H : Heap) (locs : List Loc) (ls : Array Slot), va_P D vwCl (wdG cI cJ ad gr_nodes gr_links gr_start gr_end gr_linkBetween gr_wayLength gr_wayNext gr_wayLinks) H → va_D A (wdG cI cJ ad gr_nodes gr_links gr_start gr_end gr_linkBetween gr_wayLength gr_wayNext gr_wayLinks) → va_S A s.heap H locs → lv_has ls 6 [(0, .ref (ad 3)), (2, .int x2), (3, .int x3), (4, .int x4_a44), (5, .int x5_a44)] → W p l e rm_X2_nodeOnWay s m args below meth c H locs 0 0 Q (F0 m 44 ls []) := by
            intro n
            induction n with
            | zero =>
              intro x4_a44 x5_a44 x4_o9 h0
              exact oo_n h0
            | succ n ih =>
              intro x4_a44 x5_a44 x4_o9 hf kk H locs ls hP hD hS hl
              rw [f_X2_nodeOnWay_L44_s] at hf
              refine lv_iload hx hb dX2_nodeOnWay_44 (lv_at hl 4 rfl) ?_
              refine lv_iload_n hx hb dX2_nodeOnWay_46 rfl (lv_at hl 2 rfl) ?_
              refine lv_icmp_ge (tgt := 78) hx hb dX2_nodeOnWay_47 (by decide) (fun c11 => ?_) (fun c11 => ?_)
              · have hf := oo_t hf c11
                cases hf
                exact kk _ _ _ hP hD hS (lv_sub hl [3] rfl)
              · have hf := oo_f hf c11
                refine lv_aload_n hx hb dX2_nodeOnWay_50 rfl (lv_at hl 0 rfl) ?_
                refine lv_iload hx hb dX2_nodeOnWay_51 (lv_at hl 3 rfl) ?_
                have F : Fr D A _ (wdG cI cJ ad gr_nodes gr_links gr_start gr_end gr_linkBetween gr_wayLength gr_wayNext gr_wayLinks) (wdG cI cJ ad gr_nodes gr_links gr_start gr_end gr_linkBetween gr_wayLength gr_wayNext gr_wayLinks) (wdG cI cJ ad gr_nodes gr_links gr_start gr_end gr_linkBetween gr_wayLength gr_wayNext gr_wayLinks) := fr_self hP hD hS hA
                refine kZ F hS (rV (q := (RX2, TX2, 8)) (As := [.int x4_a44]) (rest := []) ⟨hx, hb, hml, hown, hts⟩ hK hN F (c_X2_hasNode l D cI cJ ad _ (gr_nodes := gr_nodes) (gr_links := gr_links) (gr_start := gr_start) (gr_end := gr_end) (gr_linkBetween := gr_linkBetween) (gr_wayLength := gr_wayLength) (gr_wayNext := gr_wayNext) (gr_wayLinks := gr_wayLinks) x4_a44 (o_res := (f_X2_hasNode gr_nodes x4_a44)) rfl) (cwV 1 hts gX2_nodeOnWay_X2_hasNode rfl rfl rfl (by decide +kernel) ⟨Nat.le_of_ble_eq_true rfl, Nat.le_of_ble_eq_true rfl⟩) (ci := 2) rfl rfl rfl hl.1 rfl (Nat.le_of_ble_eq_true rfl) dX2_nodeOnWay_53 ⟨Nat.zero_le _, Nat.zero_le _⟩) (fun H locs hb12 hP hD hS => ?_)
                refine lv_if_eq (tgt := 78) hx hb dX2_nodeOnWay_56 (by decide) (fun c13 => ?_) (fun c13 => ?_)
                · have hf := oo_t hf c13
                  cases hf
                  exact kk _ _ _ hP hD hS (lv_sub hl [3] rfl)
                · have hf := oo_f hf c13
                  refine lv_aload_n hx hb dX2_nodeOnWay_59 rfl (lv_at hl 0 rfl) ?_
                  refine va_get (ci := 2) (v := .ref (ad 8)) (C := RX2) (T := TX2) (N := 8) hx hb hts hin_X2 hown hK hP 0 rfl rfl 6 (by decide) fl_24 (fun _ h9 => h9) rfl dX2_nodeOnWay_60 ?_
                  refine lv_iload hx hb dX2_nodeOnWay_63 (lv_at hl 3 rfl) ?_
                  refine lv_iload_n hx hb dX2_nodeOnWay_65 rfl (lv_at hl 1 rfl) ?_
                  have F : Fr D A _ [] [] (wdG cI cJ ad gr_nodes gr_links gr_start gr_end gr_linkBetween gr_wayLength gr_wayNext gr_wayLinks) := fr_nil hP hD hS hA
                  refine kI F hS (rS (As := [.int x4_a44, .int x2]) (rest := [.ref (ad 8)]) ⟨hx, hb, hml, hown, hts⟩ hK hN F (c_X2_at l D cI cJ ad _  x4_a44 x2 (o_res := (f_X2_at x4_a44 x2)) rfl) (cwS 2 hts gX2_nodeOnWay_X2_at rfl rfl rfl (by decide +kernel) ⟨Nat.le_of_ble_eq_true rfl, Nat.le_of_ble_eq_true rfl⟩) rfl hl.1 rfl (Nat.le_of_ble_eq_true rfl) dX2_nodeOnWay_66 ⟨Nat.zero_le _, Nat.zero_le _⟩) (fun H locs hP hD hS => ?_)
                  obtain ⟨g15, hf⟩ := oo_g hf
                  refine va_iald hx hb hK hP 5 0 rfl rfl g15 dX2_nodeOnWay_69 ?_
                  refine lv_istore (lv' := [(4, .int (gr_wayNext ((f_X2_at x4_a44 x2)).toNatClampNeg)), (0, .ref (ad 3)), (2, .int x2), (3, .int x3), (5, .int x5_a44)]) hx hb dX2_nodeOnWay_70 hl (by decide) rfl (fun ls hl => ?_)
                  refine lv_iinc (v := (x5_a44 + (1 : Int32))) (lv' := [(5, .int (x5_a44 + (1 : Int32))), (4, .int (gr_wayNext ((f_X2_at x4_a44 x2)).toNatClampNeg)), (0, .ref (ad 3)), (2, .int x2), (3, .int x3)]) hx hb dX2_nodeOnWay_72 hl (k := 4) rfl rfl (by decide) rfl (fun ls hl => ?_)
                  refine lv_goto (tgt := 44) hx hb dX2_nodeOnWay_75 (by decide) ?_
                  exact ih (gr_wayNext ((f_X2_at x4_a44 x2)).toNatClampNeg) (x5_a44 + (1 : Int32)) _ hf kk _ _ _ hP hD hS (lv_sub hl [2, 3, 4, 1, 0] rfl)
          obtain ⟨x4_o9, h16, hf⟩ := oo_b hf
          try dsimp only at hf
          refine lp10  100 x1 (0 : Int32) x4_o9 h16 (fun H locs ls hP hD hS hl => ?_) _ _ _ hP hD hS (lv_sub hl [2, 4, 5, 1, 0] rfl)
          refine lv_iload hx hb dX2_nodeOnWay_78 (lv_at hl 0 rfl) ?_
          cases hf
          exact hret _ _ _ _ dX2_nodeOnWay_80 hP hD hS
        · have hf := oo_f hf c8
          refine lv_iconst (v := (-1 : Int32)) hx hb dX2_nodeOnWay_36 (by decide) ?_
          cases hf
          exact hret _ _ _ _ dX2_nodeOnWay_37 hP hD hS
    · have hf := oo_t hf c4
      refine lv_iconst (v := (-1 : Int32)) hx hb dX2_nodeOnWay_16 (by decide) ?_
      cases hf
      exact hret _ _ _ _ dX2_nodeOnWay_17 hP hD hS
def f_X2_treeLinks_L15 (gr_nodes : Int32) (gr_wayLinks : Nat → Int32) (x1 : Int32) (x2 : Int32) : Nat → Int32 → Int32 → Option (Int32)
  | 0, _, _ => none
  | n + 1, x3_a15, x4_a15 =>
      if gr_nodes ≤ x4_a15 then
        some x3_a15
      else
        Option.bind (α := Int32) (if ((x2 >>> (x4_a15 &&& 31)) &&& (1 : Int32)) = (0 : Int32) then
            some x3_a15
          else
            if (f_X2_at x1 x4_a15) < 0 ∨ 36 ≤ ((f_X2_at x1 x4_a15)).toNatClampNeg then none else
            some (x3_a15 ||| (gr_wayLinks ((f_X2_at x1 x4_a15)).toNatClampNeg))) fun x3_6 =>
        f_X2_treeLinks_L15 gr_nodes gr_wayLinks x1 x2 n x3_6 (x4_a15 + (1 : Int32))
theorem f_X2_treeLinks_L15_s (gr_nodes : Int32) (gr_wayLinks : Nat → Int32) (x1 : Int32) (x2 : Int32) (n : Nat) (x3_a15 : Int32) (x4_a15 : Int32) : f_X2_treeLinks_L15 gr_nodes gr_wayLinks x1 x2 (n + 1) x3_a15 x4_a15 =
      (if gr_nodes ≤ x4_a15 then
        some x3_a15
      else
        Option.bind (α := Int32) (if ((x2 >>> (x4_a15 &&& 31)) &&& (1 : Int32)) = (0 : Int32) then
            some x3_a15
          else
            if (f_X2_at x1 x4_a15) < 0 ∨ 36 ≤ ((f_X2_at x1 x4_a15)).toNatClampNeg then none else
            some (x3_a15 ||| (gr_wayLinks ((f_X2_at x1 x4_a15)).toNatClampNeg))) fun x3_6 =>
        f_X2_treeLinks_L15 gr_nodes gr_wayLinks x1 x2 n x3_6 (x4_a15 + (1 : Int32))) := rfl
def f_X2_treeLinks (gr_nodes : Int32) (gr_wayLinks : Nat → Int32) (x1 : Int32) (x2 : Int32) : Option (Int32) :=
  if (f_X2_hasNode gr_nodes x1) = (0 : Int32) then
    some (0 : Int32)
  else
    Option.bind (f_X2_treeLinks_L15 gr_nodes gr_wayLinks x1 x2 100 (0 : Int32) (0 : Int32)) fun x3_o3 =>
    some x3_o3
abbrev rm_X2_treeLinks : Room := { frames := 1, cells := 0, slots := 0, locals := 21 }
set_option maxHeartbeats 4000000 in
set_option maxRecDepth 100000 in
theorem c_X2_treeLinks (l : Launch) (D : va_G) (cI cJ : ClassId) (ad : Nat → Nat) (sz : Nat) {gr_nodes gr_links : Int32} {gr_start gr_end gr_linkBetween gr_wayLength gr_wayNext gr_wayLinks : Nat → Int32} (x1 : Int32) (x2 : Int32) {o_res : Int32} (hf : f_X2_treeLinks gr_nodes gr_wayLinks x1 x2 = some o_res) : CtI l yX2_treeLinks wsX2_treeLinks rm_X2_treeLinks D cI cJ [.ref (ad 3), .int x1, .int x2] (wdG cI cJ ad gr_nodes gr_links gr_start gr_end gr_linkBetween gr_wayLength gr_wayNext gr_wayLinks) sz o_res (wdG cI cJ ad gr_nodes gr_links gr_start gr_end gr_linkBetween gr_wayLength gr_wayNext gr_wayLinks) := by
  refine ctI_of (cc := cX2_treeLinks) (maxL := 5) (by decide) rfl (Nat.le_of_ble_eq_true rfl) ?_
  intro p e s m below meth c Q A hx hb hml hown hts hK hN hA hret ls hl hP hD hS
  obtain ⟨args, hargs⟩ : ∃ a : Array Value, a = [.ref (ad 3), .int x1, .int x2].toArray := ⟨_, rfl⟩
  rw [← hargs] at hts hret ⊢
  have hown : s.vm.findClass RX2 = some m.cls := hown
  have hl : lv_has ls 5 [(0, .ref (ad 3)), (1, .int x1), (2, .int x2)] := hl
  have hin_X2 : ∀ w ∈ wsX20, w ∈ wsX2_treeLinks := fun _ h => List.mem_cons_of_mem _ (List.mem_append_right _ h)
  have fl_27 : (Cond.fieldLink RX2 27 "FoldedWays$Graph" "wayLinks" "[I").before args s = true := hat hts 2 rfl
  have fl_30 : (Cond.fieldLink RX2 30 "FoldedWays$Graph" "nodes" "I").before args s = true := hat hts 1 rfl
  unfold f_X2_treeLinks at hf
  refine lv_aload_n hx hb dX2_treeLinks_0 rfl (lv_at hl 0 rfl) ?_
  refine lv_iload_n hx hb dX2_treeLinks_1 rfl (lv_at hl 1 rfl) ?_
  have F : Fr D A _ (wdG cI cJ ad gr_nodes gr_links gr_start gr_end gr_linkBetween gr_wayLength gr_wayNext gr_wayLinks) (wdG cI cJ ad gr_nodes gr_links gr_start gr_end gr_linkBetween gr_wayLength gr_wayNext gr_wayLinks) (wdG cI cJ ad gr_nodes gr_links gr_start gr_end gr_linkBetween gr_wayLength gr_wayNext gr_wayLinks) := fr_self hP hD hS hA
  refine kZ F hS (rV (q := (RX2, TX2, 8)) (As := [.int x1]) (rest := []) ⟨hx, hb, hml, hown, hts⟩ hK hN F (c_X2_hasNode l D cI cJ ad _ (gr_nodes := gr_nodes) (gr_links := gr_links) (gr_start := gr_start) (gr_end := gr_end) (gr_linkBetween := gr_linkBetween) (gr_wayLength := gr_wayLength) (gr_wayNext := gr_wayNext) (gr_wayLinks := gr_wayLinks) x1 (o_res := (f_X2_hasNode gr_nodes x1)) rfl) (cwV 1 hts gX2_treeLinks_X2_hasNode rfl rfl rfl (by decide +kernel) ⟨Nat.le_of_ble_eq_true rfl, Nat.le_of_ble_eq_true rfl⟩) (ci := 2) rfl rfl rfl hl.1 rfl (Nat.le_of_ble_eq_true rfl) dX2_treeLinks_2 ⟨Nat.zero_le _, Nat.zero_le _⟩) (fun H locs hb1 hP hD hS => ?_)
  refine lv_if_ne (tgt := 10) hx hb dX2_treeLinks_5 (by decide) (fun c2 => ?_) (fun c2 => ?_)
  · have hf := oo_f hf c2
    refine lv_iconst (v := (0 : Int32)) hx hb dX2_treeLinks_10 (by decide) ?_
    refine lv_istore_n (lv' := [(3, .int (0 : Int32)), (0, .ref (ad 3)), (1, .int x1), (2, .int x2)]) hx hb dX2_treeLinks_11 rfl hl (by decide) rfl (fun ls hl => ?_)
    refine lv_iconst (v := (0 : Int32)) hx hb dX2_treeLinks_12 (by decide) ?_
    refine lv_istore (lv' := [(4, .int (0 : Int32)), (3, .int (0 : Int32)), (0, .ref (ad 3)), (1, .int x1), (2, .int x2)]) hx hb dX2_treeLinks_13 hl (by decide) rfl (fun ls hl => ?_)
    have lp4 : ∀ (n : Nat) (x3_a15 : Int32) (x4_a15 : Int32) (x3_o3 : Int32), f_X2_treeLinks_L15 gr_nodes gr_wayLinks x1 x2 n x3_a15 x4_a15 = some x3_o3 → (∀ (H : Heap) (locs : List Loc) (ls : Array Slot), va_P D vwCl (wdG cI cJ ad gr_nodes gr_links gr_start gr_end gr_linkBetween gr_wayLength gr_wayNext gr_wayLinks) H → va_D A (wdG cI cJ ad gr_nodes gr_links gr_start gr_end gr_linkBetween gr_wayLength gr_wayNext gr_wayLinks) → va_S A s.heap H locs → lv_has ls 5 [(3, .int x3_o3)] → W p l e rm_X2_treeLinks s m args below meth c H locs 0 0 Q (F0 m 53 ls [])) → ∀ (H : Heap) (locs : List Loc) (ls : Array Slot), va_P D vwCl (wdG cI cJ ad gr_nodes gr_links gr_start gr_end gr_linkBetween gr_wayLength gr_wayNext gr_wayLinks) H → va_D A (wdG cI cJ ad gr_nodes gr_links gr_start gr_end gr_linkBetween gr_wayLength gr_wayNext gr_wayLinks) → va_S A s.heap H locs → lv_has ls 5 [(0, .ref (ad 3)), (1, .int x1), (2, .int x2), (3, .int x3_a15), (4, .int x4_a15)] → W p l e rm_X2_treeLinks s m args below meth c H locs 0 0 Q (F0 m 15 ls []) := by
      intro n
      induction n with
      | zero =>
        intro x3_a15 x4_a15 x3_o3 h0
        exact oo_n h0
      | succ n ih =>
        intro x3_a15 x4_a15 x3_o3 hf kk H locs ls hP hD hS hl
        rw [f_X2_treeLinks_L15_s] at hf
        refine lv_iload hx hb dX2_treeLinks_15 (lv_at hl 4 rfl) ?_
        refine lv_aload_n hx hb dX2_treeLinks_17 rfl (lv_at hl 0 rfl) ?_
        refine va_get (ci := 2) (v := .int gr_nodes) (C := RX2) (T := TX2) (N := 8) hx hb hts hin_X2 hown hK hP 0 rfl rfl 0 (by decide) fl_30 (fun _ h9 => h9) rfl dX2_treeLinks_18 ?_
        refine lv_icmp_ge (tgt := 53) hx hb dX2_treeLinks_21 (by decide) (fun c5 => ?_) (fun c5 => ?_)
        · have hf := oo_t hf c5
          cases hf
          exact kk _ _ _ hP hD hS (lv_sub hl [3] rfl)
        · have hf := oo_f hf c5
          refine lv_iload_n hx hb dX2_treeLinks_24 rfl (lv_at hl 2 rfl) ?_
          refine lv_iload hx hb dX2_treeLinks_25 (lv_at hl 4 rfl) ?_
          refine lv_ishr hx hb dX2_treeLinks_27 ?_
          refine lv_iconst (v := (1 : Int32)) hx hb dX2_treeLinks_28 (by decide) ?_
          refine lv_iand hx hb dX2_treeLinks_29 ?_
          obtain ⟨x3_6, hj8, hf⟩ := oo_b hf
          try dsimp only at hf
          have kj7 : ∀ (H : Heap) (locs : List Loc) (ls : Array Slot), va_P D vwCl (wdG cI cJ ad gr_nodes gr_links gr_start gr_end gr_linkBetween gr_wayLength gr_wayNext gr_wayLinks) H → va_D A (wdG cI cJ ad gr_nodes gr_links gr_start gr_end gr_linkBetween gr_wayLength gr_wayNext gr_wayLinks) → va_S A s.heap H locs → lv_has ls 5 [(0, .ref (ad 3)), (1, .int x1), (2, .int x2), (3, .int x3_6), (4, .int x4_a15)] → W p l e rm_X2_treeLinks s m args below meth c H locs 0 0 Q (F0 m 47 ls []) := by
            intro H locs ls hP hD hS hl
            refine lv_iinc (v := (x4_a15 + (1 : Int32))) (lv' := [(4, .int (x4_a15 + (1 : Int32))), (0, .ref (ad 3)), (1, .int x1), (2, .int x2), (3, .int x3_6)]) hx hb dX2_treeLinks_47 hl (k := 4) rfl rfl (by decide) rfl (fun ls hl => ?_)
            refine lv_goto (tgt := 15) hx hb dX2_treeLinks_50 (by decide) ?_
            exact ih x3_6 (x4_a15 + (1 : Int32)) _ hf kk _ _ _ hP hD hS (lv_sub hl [1, 2, 3, 4, 0] rfl)
          clear hf
          have hf := hj8
          clear hj8
          refine lv_if_eq (tgt := 47) hx hb dX2_treeLinks_30 (by decide) (fun c9 => ?_) (fun c9 => ?_)
          · have hf := oo_t hf c9
            cases hf
            exact kj7 _ _ _ hP hD hS (lv_sub hl [0, 1, 2, 3, 4] rfl)
          · have hf := oo_f hf c9
            refine lv_iload_n hx hb dX2_treeLinks_33 rfl (lv_at hl 3 rfl) ?_
            refine lv_aload_n hx hb dX2_treeLinks_34 rfl (lv_at hl 0 rfl) ?_
            refine va_get (ci := 2) (v := .ref (ad 9)) (C := RX2) (T := TX2) (N := 8) hx hb hts hin_X2 hown hK hP 0 rfl rfl 7 (by decide) fl_27 (fun _ h9 => h9) rfl dX2_treeLinks_35 ?_
            refine lv_iload_n hx hb dX2_treeLinks_38 rfl (lv_at hl 1 rfl) ?_
            refine lv_iload hx hb dX2_treeLinks_39 (lv_at hl 4 rfl) ?_
            have F : Fr D A _ [] [] (wdG cI cJ ad gr_nodes gr_links gr_start gr_end gr_linkBetween gr_wayLength gr_wayNext gr_wayLinks) := fr_nil hP hD hS hA
            refine kI F hS (rS (As := [.int x1, .int x4_a15]) (rest := [.ref (ad 9), .int x3_a15]) ⟨hx, hb, hml, hown, hts⟩ hK hN F (c_X2_at l D cI cJ ad _  x1 x4_a15 (o_res := (f_X2_at x1 x4_a15)) rfl) (cwS 2 hts gX2_treeLinks_X2_at rfl rfl rfl (by decide +kernel) ⟨Nat.le_of_ble_eq_true rfl, Nat.le_of_ble_eq_true rfl⟩) rfl hl.1 rfl (Nat.le_of_ble_eq_true rfl) dX2_treeLinks_41 ⟨Nat.zero_le _, Nat.zero_le _⟩) (fun H locs hP hD hS => ?_)
            obtain ⟨g11, hf⟩ := oo_g hf
            refine va_iald hx hb hK hP 6 0 rfl rfl g11 dX2_treeLinks_44 ?_
            refine lv_ior hx hb dX2_treeLinks_45 ?_
            refine lv_istore_n (lv' := [(3, .int (x3_a15 ||| (gr_wayLinks ((f_X2_at x1 x4_a15)).toNatClampNeg))), (0, .ref (ad 3)), (1, .int x1), (2, .int x2), (4, .int x4_a15)]) hx hb dX2_treeLinks_46 rfl hl (by decide) rfl (fun ls hl => ?_)
            cases hf
            exact kj7 _ _ _ hP hD hS (lv_sub hl [1, 2, 3, 0, 4] rfl)
    obtain ⟨x3_o3, h12, hf⟩ := oo_b hf
    try dsimp only at hf
    refine lp4  100 (0 : Int32) (0 : Int32) x3_o3 h12 (fun H locs ls hP hD hS hl => ?_) _ _ _ hP hD hS (lv_sub hl [2, 3, 4, 1, 0] rfl)
    refine lv_iload_n hx hb dX2_treeLinks_53 rfl (lv_at hl 0 rfl) ?_
    cases hf
    exact hret _ _ _ _ dX2_treeLinks_54 hP hD hS
  · have hf := oo_t hf c2
    refine lv_iconst (v := (0 : Int32)) hx hb dX2_treeLinks_8 (by decide) ?_
    cases hf
    exact hret _ _ _ _ dX2_treeLinks_9 hP hD hS
def f_X3_allows (x1 : Int32) (x2 : Int32) : Int32 :=
  if x1 = (0 : Int32) then
    if x2 < (8 : Int32) then
      (0 : Int32)
    else
      if (40 : Int32) < x2 then
        (0 : Int32)
      else
        (1 : Int32)
  else
    if x1 = (1 : Int32) then
      if x2 < (1 : Int32) then
        (0 : Int32)
      else
        if (4 : Int32) < x2 then
          (0 : Int32)
        else
          (1 : Int32)
    else
      if x1 = (2 : Int32) then
        if x2 < (0 : Int32) then
          (0 : Int32)
        else
          (1 : Int32)
      else
        (0 : Int32)
abbrev rm_X3_allows : Room := { frames := 0, cells := 0, slots := 0, locals := 0 }
set_option maxHeartbeats 4000000 in
set_option maxRecDepth 100000 in
theorem c_X3_allows (l : Launch) (D : va_G) (cI cJ : ClassId) (ad : Nat → Nat) (sz : Nat) {mk_width mk_drawn mk_seed : Int32} {mk_nextSeed : Int64} {mk_bits : Nat → Int64} (x1 : Int32) (x2 : Int32) {o_res : Int32} (hf : f_X3_allows x1 x2 = o_res) : CtZ l yX3_allows wsX3_allows rm_X3_allows D cI cJ [.ref (ad 10), .int x1, .int x2] (wdK cI cJ ad mk_width mk_drawn mk_seed mk_nextSeed mk_bits) sz o_res (wdK cI cJ ad mk_width mk_drawn mk_seed mk_nextSeed mk_bits) := by
  refine ctZ_of (cc := cX3_allows) (maxL := 3) (by decide) rfl (Nat.le_of_ble_eq_true rfl) ?_
  intro p e s m below meth c Q A hx hb hml hown hts hK hN hA hret ls hl hP hD hS
  obtain ⟨args, hargs⟩ : ∃ a : Array Value, a = [.ref (ad 10), .int x1, .int x2].toArray := ⟨_, rfl⟩
  rw [← hargs] at hts hret ⊢
  have hown : s.vm.findClass RX3 = some m.cls := hown
  have hl : lv_has ls 3 [(0, .ref (ad 10)), (1, .int x1), (2, .int x2)] := hl
  unfold f_X3_allows at hf
  refine lv_iload_n hx hb dX3_allows_0 rfl (lv_at hl 1 rfl) ?_
  by_cases c2 : x1 = (0 : Int32)
  · have hf := oo_t hf c2
    refine lv_tableIn (tgt := 28) hx hb dX3_allows_1 (by rw [c2]; decide) (by rw [c2]; decide) (by rw [c2]; rfl) (by decide) ?_
    refine lv_iload_n hx hb dX3_allows_28 rfl (lv_at hl 2 rfl) ?_
    refine lv_bipush (v := (8 : Int32)) hx hb dX3_allows_29 (by decide) ?_
    refine lv_icmp_lt (tgt := 44) hx hb dX3_allows_31 (by decide) (fun c3 => ?_) (fun c3 => ?_)
    · have hf := oo_t hf c3
      refine lv_iconst (v := (0 : Int32)) hx hb dX3_allows_44 (by decide) ?_
      cases hf
      exact hret _ _ _ _ (Or.inl rfl) dX3_allows_45 hP hD hS
    · have hf := oo_f hf c3
      refine lv_iload_n hx hb dX3_allows_34 rfl (lv_at hl 2 rfl) ?_
      refine lv_bipush (v := (40 : Int32)) hx hb dX3_allows_35 (by decide) ?_
      refine lv_icmp_gt (tgt := 44) hx hb dX3_allows_37 (by decide) (fun c4 => ?_) (fun c4 => ?_)
      · have hf := oo_t hf c4
        refine lv_iconst (v := (0 : Int32)) hx hb dX3_allows_44 (by decide) ?_
        cases hf
        exact hret _ _ _ _ (Or.inl rfl) dX3_allows_45 hP hD hS
      · have hf := oo_f hf c4
        refine lv_iconst (v := (1 : Int32)) hx hb dX3_allows_40 (by decide) ?_
        refine lv_goto (tgt := 45) hx hb dX3_allows_41 (by decide) ?_
        cases hf
        exact hret _ _ _ _ (Or.inr rfl) dX3_allows_45 hP hD hS
  · have hf := oo_f hf c2
    by_cases c5 : x1 = (1 : Int32)
    · have hf := oo_t hf c5
      refine lv_tableIn (tgt := 46) hx hb dX3_allows_1 (by rw [c5]; decide) (by rw [c5]; decide) (by rw [c5]; rfl) (by decide) ?_
      refine lv_iload_n hx hb dX3_allows_46 rfl (lv_at hl 2 rfl) ?_
      refine lv_iconst (v := (1 : Int32)) hx hb dX3_allows_47 (by decide) ?_
      refine lv_icmp_lt (tgt := 60) hx hb dX3_allows_48 (by decide) (fun c6 => ?_) (fun c6 => ?_)
      · have hf := oo_t hf c6
        refine lv_iconst (v := (0 : Int32)) hx hb dX3_allows_60 (by decide) ?_
        cases hf
        exact hret _ _ _ _ (Or.inl rfl) dX3_allows_61 hP hD hS
      · have hf := oo_f hf c6
        refine lv_iload_n hx hb dX3_allows_51 rfl (lv_at hl 2 rfl) ?_
        refine lv_iconst (v := (4 : Int32)) hx hb dX3_allows_52 (by decide) ?_
        refine lv_icmp_gt (tgt := 60) hx hb dX3_allows_53 (by decide) (fun c7 => ?_) (fun c7 => ?_)
        · have hf := oo_t hf c7
          refine lv_iconst (v := (0 : Int32)) hx hb dX3_allows_60 (by decide) ?_
          cases hf
          exact hret _ _ _ _ (Or.inl rfl) dX3_allows_61 hP hD hS
        · have hf := oo_f hf c7
          refine lv_iconst (v := (1 : Int32)) hx hb dX3_allows_56 (by decide) ?_
          refine lv_goto (tgt := 61) hx hb dX3_allows_57 (by decide) ?_
          cases hf
          exact hret _ _ _ _ (Or.inr rfl) dX3_allows_61 hP hD hS
    · have hf := oo_f hf c5
      by_cases c8 : x1 = (2 : Int32)
      · have hf := oo_t hf c8
        refine lv_tableIn (tgt := 62) hx hb dX3_allows_1 (by rw [c8]; decide) (by rw [c8]; decide) (by rw [c8]; rfl) (by decide) ?_
        refine lv_iload_n hx hb dX3_allows_62 rfl (lv_at hl 2 rfl) ?_
        refine lv_if_lt (tgt := 70) hx hb dX3_allows_63 (by decide) (fun c9 => ?_) (fun c9 => ?_)
        · have hf := oo_t hf c9
          refine lv_iconst (v := (0 : Int32)) hx hb dX3_allows_70 (by decide) ?_
          cases hf
          exact hret _ _ _ _ (Or.inl rfl) dX3_allows_71 hP hD hS
        · have hf := oo_f hf c9
          refine lv_iconst (v := (1 : Int32)) hx hb dX3_allows_66 (by decide) ?_
          refine lv_goto (tgt := 71) hx hb dX3_allows_67 (by decide) ?_
          cases hf
          exact hret _ _ _ _ (Or.inr rfl) dX3_allows_71 hP hD hS
      · have hf := oo_f hf c8
        refine lv_tableOut (tgt := 72) hx hb dX3_allows_1 (tblo_0_3 c2 c5 c8) (by decide) ?_
        refine lv_iconst (v := (0 : Int32)) hx hb dX3_allows_72 (by decide) ?_
        cases hf
        exact hret _ _ _ _ (Or.inl rfl) dX3_allows_73 hP hD hS
def f_X3_setting (mk_width : Int32) (mk_drawn : Int32) (mk_seed : Int32) (x1 : Int32) : Int32 :=
  if x1 = (0 : Int32) then
    mk_width
  else
    if x1 = (1 : Int32) then
      mk_drawn
    else
      mk_seed
abbrev rm_X3_setting : Room := { frames := 0, cells := 0, slots := 0, locals := 0 }
set_option maxHeartbeats 4000000 in
set_option maxRecDepth 100000 in
theorem c_X3_setting (l : Launch) (D : va_G) (cI cJ : ClassId) (ad : Nat → Nat) (sz : Nat) {mk_width mk_drawn mk_seed : Int32} {mk_nextSeed : Int64} {mk_bits : Nat → Int64} (x1 : Int32) {o_res : Int32} (hf : f_X3_setting mk_width mk_drawn mk_seed x1 = o_res) : CtI l yX3_setting wsX3_setting rm_X3_setting D cI cJ [.ref (ad 10), .int x1] (wdK cI cJ ad mk_width mk_drawn mk_seed mk_nextSeed mk_bits) sz o_res (wdK cI cJ ad mk_width mk_drawn mk_seed mk_nextSeed mk_bits) := by
  refine ctI_of (cc := cX3_setting) (maxL := 2) (by decide) rfl (Nat.le_of_ble_eq_true rfl) ?_
  intro p e s m below meth c Q A hx hb hml hown hts hK hN hA hret ls hl hP hD hS
  obtain ⟨args, hargs⟩ : ∃ a : Array Value, a = [.ref (ad 10), .int x1].toArray := ⟨_, rfl⟩
  rw [← hargs] at hts hret ⊢
  have hown : s.vm.findClass RX3 = some m.cls := hown
  have hl : lv_has ls 2 [(0, .ref (ad 10)), (1, .int x1)] := hl
  have hin_X3 : ∀ w ∈ wsX30, w ∈ wsX3_setting := fun _ h => List.mem_cons_of_mem _ (List.mem_append_right _ h)
  have fl_9 : (Cond.fieldLink RX3 9 "FoldedWays$Marks" "width" "I").before args s = true := hat hts 1 rfl
  have fl_15 : (Cond.fieldLink RX3 15 "FoldedWays$Marks" "drawn" "I").before args s = true := hat hts 2 rfl
  have fl_18 : (Cond.fieldLink RX3 18 "FoldedWays$Marks" "seed" "I").before args s = true := hat hts 3 rfl
  unfold f_X3_setting at hf
  refine lv_iload_n hx hb dX3_setting_0 rfl (lv_at hl 1 rfl) ?_
  refine lv_if_ne (tgt := 11) hx hb dX3_setting_1 (by decide) (fun c1 => ?_) (fun c1 => ?_)
  · have hf := oo_f hf c1
    refine lv_iload_n hx hb dX3_setting_11 rfl (lv_at hl 1 rfl) ?_
    refine lv_iconst (v := (1 : Int32)) hx hb dX3_setting_12 (by decide) ?_
    refine lv_icmp_ne (tgt := 23) hx hb dX3_setting_13 (by decide) (fun c2 => ?_) (fun c2 => ?_)
    · have hf := oo_f hf c2
      refine lv_aload_n hx hb dX3_setting_23 rfl (lv_at hl 0 rfl) ?_
      refine va_get (ci := 3) (v := .int mk_seed) (C := RX3) (T := TX3) (N := 5) hx hb hts hin_X3 hown hK hP 0 rfl rfl 2 (by decide) fl_18 (fun _ h9 => h9) rfl dX3_setting_24 ?_
      cases hf
      exact hret _ _ _ _ dX3_setting_27 hP hD hS
    · have hf := oo_t hf c2
      refine lv_aload_n hx hb dX3_setting_16 rfl (lv_at hl 0 rfl) ?_
      refine va_get (ci := 3) (v := .int mk_drawn) (C := RX3) (T := TX3) (N := 5) hx hb hts hin_X3 hown hK hP 0 rfl rfl 1 (by decide) fl_15 (fun _ h9 => h9) rfl dX3_setting_17 ?_
      refine lv_goto (tgt := 27) hx hb dX3_setting_20 (by decide) ?_
      cases hf
      exact hret _ _ _ _ dX3_setting_27 hP hD hS
  · have hf := oo_t hf c1
    refine lv_aload_n hx hb dX3_setting_4 rfl (lv_at hl 0 rfl) ?_
    refine va_get (ci := 3) (v := .int mk_width) (C := RX3) (T := TX3) (N := 5) hx hb hts hin_X3 hown hK hP 0 rfl rfl 0 (by decide) fl_9 (fun _ h9 => h9) rfl dX3_setting_5 ?_
    refine lv_goto (tgt := 27) hx hb dX3_setting_8 (by decide) ?_
    cases hf
    exact hret _ _ _ _ dX3_setting_27 hP hD hS
def f_X3_change (mk_width : Int32) (mk_drawn : Int32) (mk_seed : Int32) (x1 : Int32) (x2 : Int32) : Int32 × Int32 × Int32 :=
  if x1 = (0 : Int32) then
    (x2, mk_drawn, mk_seed)
  else
    if x1 = (1 : Int32) then
      (mk_width, x2, mk_seed)
    else
      (mk_width, mk_drawn, x2)
abbrev rm_X3_change : Room := { frames := 0, cells := 0, slots := 0, locals := 0 }
set_option maxHeartbeats 4000000 in
set_option maxRecDepth 100000 in
theorem c_X3_change (l : Launch) (D : va_G) (cI cJ : ClassId) (ad : Nat → Nat) (sz : Nat) {mk_width mk_drawn mk_seed : Int32} {mk_nextSeed : Int64} {mk_bits : Nat → Int64} (x1 : Int32) (x2 : Int32) {o_mk_width : Int32} {o_mk_drawn : Int32} {o_mk_seed : Int32} (hf : f_X3_change mk_width mk_drawn mk_seed x1 x2 = (o_mk_width, o_mk_drawn, o_mk_seed)) : CtV l yX3_change wsX3_change rm_X3_change D cI cJ [.ref (ad 10), .int x1, .int x2] (wdK cI cJ ad mk_width mk_drawn mk_seed mk_nextSeed mk_bits) sz (wdK cI cJ ad o_mk_width o_mk_drawn o_mk_seed mk_nextSeed mk_bits) := by
  refine ctV_of (cc := cX3_change) (maxL := 3) (by decide) rfl (Nat.le_of_ble_eq_true rfl) ?_
  intro p e s m below meth c Q A hx hb hml hown hts hK hN hA hret ls hl hP hD hS
  obtain ⟨args, hargs⟩ : ∃ a : Array Value, a = [.ref (ad 10), .int x1, .int x2].toArray := ⟨_, rfl⟩
  rw [← hargs] at hts hret ⊢
  have hown : s.vm.findClass RX3 = some m.cls := hown
  have hl : lv_has ls 3 [(0, .ref (ad 10)), (1, .int x1), (2, .int x2)] := hl
  have hin_X3 : ∀ w ∈ wsX30, w ∈ wsX3_change := fun _ h => List.mem_cons_of_mem _ (List.mem_append_right _ h)
  have fl_9 : (Cond.fieldLink RX3 9 "FoldedWays$Marks" "width" "I").before args s = true := hat hts 1 rfl
  have fl_15 : (Cond.fieldLink RX3 15 "FoldedWays$Marks" "drawn" "I").before args s = true := hat hts 2 rfl
  have fl_18 : (Cond.fieldLink RX3 18 "FoldedWays$Marks" "seed" "I").before args s = true := hat hts 3 rfl
  unfold f_X3_change at hf
  refine lv_iload_n hx hb dX3_change_0 rfl (lv_at hl 1 rfl) ?_
  refine lv_if_ne (tgt := 12) hx hb dX3_change_1 (by decide) (fun c1 => ?_) (fun c1 => ?_)
  · have hf := oo_f hf c1
    refine lv_iload_n hx hb dX3_change_12 rfl (lv_at hl 1 rfl) ?_
    refine lv_iconst (v := (1 : Int32)) hx hb dX3_change_13 (by decide) ?_
    refine lv_icmp_ne (tgt := 25) hx hb dX3_change_14 (by decide) (fun c2 => ?_) (fun c2 => ?_)
    · have hf := oo_f hf c2
      refine lv_aload_n hx hb dX3_change_25 rfl (lv_at hl 0 rfl) ?_
      refine lv_iload_n hx hb dX3_change_26 rfl (lv_at hl 2 rfl) ?_
      refine va_put (ci := 3) (v := .int x2) (ty := .int) (C := RX3) (T := TX3) (N := 5) hx hb hts hin_X3 tyX3 tyX3_ok nmX3 hown hK hP hD hS 0 rfl rfl 2 (by decide) fl_18 (fun _ h9 => h9) rfl (by decide +kernel) rfl rfl (Nat.le_of_ble_eq_true rfl) dX3_change_27 (fun H locs hP hD hS => ?_)
      have hP : va_P D vwCl (wdK cI cJ ad mk_width mk_drawn x2 mk_nextSeed mk_bits) H := hP
      have hD : va_D A (wdK cI cJ ad mk_width mk_drawn x2 mk_nextSeed mk_bits) := hD
      cases hf
      exact hret _ _ _ _ dX3_change_30 hP hD hS
    · have hf := oo_t hf c2
      refine lv_aload_n hx hb dX3_change_17 rfl (lv_at hl 0 rfl) ?_
      refine lv_iload_n hx hb dX3_change_18 rfl (lv_at hl 2 rfl) ?_
      refine va_put (ci := 3) (v := .int x2) (ty := .int) (C := RX3) (T := TX3) (N := 5) hx hb hts hin_X3 tyX3 tyX3_ok nmX3 hown hK hP hD hS 0 rfl rfl 1 (by decide) fl_15 (fun _ h9 => h9) rfl (by decide +kernel) rfl rfl (Nat.le_of_ble_eq_true rfl) dX3_change_19 (fun H locs hP hD hS => ?_)
      have hP : va_P D vwCl (wdK cI cJ ad mk_width x2 mk_seed mk_nextSeed mk_bits) H := hP
      have hD : va_D A (wdK cI cJ ad mk_width x2 mk_seed mk_nextSeed mk_bits) := hD
      refine lv_goto (tgt := 30) hx hb dX3_change_22 (by decide) ?_
      cases hf
      exact hret _ _ _ _ dX3_change_30 hP hD hS
  · have hf := oo_t hf c1
    refine lv_aload_n hx hb dX3_change_4 rfl (lv_at hl 0 rfl) ?_
    refine lv_iload_n hx hb dX3_change_5 rfl (lv_at hl 2 rfl) ?_
    refine va_put (ci := 3) (v := .int x2) (ty := .int) (C := RX3) (T := TX3) (N := 5) hx hb hts hin_X3 tyX3 tyX3_ok nmX3 hown hK hP hD hS 0 rfl rfl 0 (by decide) fl_9 (fun _ h9 => h9) rfl (by decide +kernel) rfl rfl (Nat.le_of_ble_eq_true rfl) dX3_change_6 (fun H locs hP hD hS => ?_)
    have hP : va_P D vwCl (wdK cI cJ ad x2 mk_drawn mk_seed mk_nextSeed mk_bits) H := hP
    have hD : va_D A (wdK cI cJ ad x2 mk_drawn mk_seed mk_nextSeed mk_bits) := hD
    refine lv_goto (tgt := 30) hx hb dX3_change_9 (by decide) ?_
    cases hf
    exact hret _ _ _ _ dX3_change_30 hP hD hS
def f_X5_isVariant (x0 : Int32) : Int32 :=
  if x0 < (0 : Int32) then
    (0 : Int32)
  else
    if (3 : Int32) ≤ x0 then
      (0 : Int32)
    else
      (1 : Int32)
abbrev rm_X5_isVariant : Room := { frames := 0, cells := 0, slots := 0, locals := 0 }
set_option maxHeartbeats 4000000 in
set_option maxRecDepth 100000 in
theorem c_X5_isVariant (l : Launch) (D : va_G) (cI cJ : ClassId) (ad : Nat → Nat) (sz : Nat)  (x0 : Int32) {o_res : Int32} (hf : f_X5_isVariant x0 = o_res) : CtZ l yX5_isVariant wsX5_isVariant rm_X5_isVariant D cI cJ [.int x0] [] sz o_res [] := by
  refine ctZ_of (cc := cX5_isVariant) (maxL := 1) (by decide) rfl (Nat.le_of_ble_eq_true rfl) ?_
  intro p e s m below meth c Q A hx hb hml hown hts hK hN hA hret ls hl hP hD hS
  obtain ⟨args, hargs⟩ : ∃ a : Array Value, a = [.int x0].toArray := ⟨_, rfl⟩
  rw [← hargs] at hts hret ⊢
  have hown : s.vm.findClass RX5 = some m.cls := hown
  have hl : lv_has ls 1 [(0, .int x0)] := hl
  unfold f_X5_isVariant at hf
  refine lv_iload_n hx hb dX5_isVariant_0 rfl (lv_at hl 0 rfl) ?_
  refine lv_if_lt (tgt := 13) hx hb dX5_isVariant_1 (by decide) (fun c1 => ?_) (fun c1 => ?_)
  · have hf := oo_t hf c1
    refine lv_iconst (v := (0 : Int32)) hx hb dX5_isVariant_13 (by decide) ?_
    cases hf
    exact hret _ _ _ _ (Or.inl rfl) dX5_isVariant_14 hP hD hS
  · have hf := oo_f hf c1
    refine lv_iload_n hx hb dX5_isVariant_4 rfl (lv_at hl 0 rfl) ?_
    refine lv_iconst (v := (3 : Int32)) hx hb dX5_isVariant_5 (by decide) ?_
    refine lv_icmp_ge (tgt := 13) hx hb dX5_isVariant_6 (by decide) (fun c2 => ?_) (fun c2 => ?_)
    · have hf := oo_t hf c2
      refine lv_iconst (v := (0 : Int32)) hx hb dX5_isVariant_13 (by decide) ?_
      cases hf
      exact hret _ _ _ _ (Or.inl rfl) dX5_isVariant_14 hP hD hS
    · have hf := oo_f hf c2
      refine lv_iconst (v := (1 : Int32)) hx hb dX5_isVariant_9 (by decide) ?_
      refine lv_goto (tgt := 14) hx hb dX5_isVariant_10 (by decide) ?_
      cases hf
      exact hret _ _ _ _ (Or.inr rfl) dX5_isVariant_14 hP hD hS
def f_X3_ofLink (mk_bits : Nat → Int64) (x1 : Int32) (x2 : Int32) : Option (Int64) :=
  if (f_X5_isVariant x2) = (0 : Int32) then
    some (0 : Int64)
  else
    if x1 < (0 : Int32) then
      some (0 : Int64)
    else
      if (16 : Int32) ≤ x1 then
        some (0 : Int64)
      else
        if (((20 : Int32) * x2) + x1) < 0 ∨ 60 ≤ ((((20 : Int32) * x2) + x1)).toNatClampNeg then none else
        some (mk_bits ((((20 : Int32) * x2) + x1)).toNatClampNeg)
abbrev rm_X3_ofLink : Room := { frames := 1, cells := 0, slots := 0, locals := 20 }
set_option maxHeartbeats 4000000 in
set_option maxRecDepth 100000 in
theorem c_X3_ofLink (l : Launch) (D : va_G) (cI cJ : ClassId) (ad : Nat → Nat) (sz : Nat) {mk_width mk_drawn mk_seed : Int32} {mk_nextSeed : Int64} {mk_bits : Nat → Int64} (x1 : Int32) (x2 : Int32) {o_res : Int64} (hf : f_X3_ofLink mk_bits x1 x2 = some o_res) : CtL l yX3_ofLink wsX3_ofLink rm_X3_ofLink D cI cJ [.ref (ad 10), .int x1, .int x2] (wdK cI cJ ad mk_width mk_drawn mk_seed mk_nextSeed mk_bits) sz o_res (wdK cI cJ ad mk_width mk_drawn mk_seed mk_nextSeed mk_bits) := by
  refine ctL_of (cc := cX3_ofLink) (maxL := 3) (by decide) rfl (Nat.le_of_ble_eq_true rfl) ?_
  intro p e s m below meth c Q A hx hb hml hown hts hK hN hA hret ls hl hP hD hS
  obtain ⟨args, hargs⟩ : ∃ a : Array Value, a = [.ref (ad 10), .int x1, .int x2].toArray := ⟨_, rfl⟩
  rw [← hargs] at hts hret ⊢
  have hown : s.vm.findClass RX3 = some m.cls := hown
  have hl : lv_has ls 3 [(0, .ref (ad 10)), (1, .int x1), (2, .int x2)] := hl
  have hin_X3 : ∀ w ∈ wsX30, w ∈ wsX3_ofLink := fun _ h => List.mem_cons_of_mem _ (List.mem_append_right _ h)
  have fl_21 : (Cond.fieldLink RX3 21 "FoldedWays$Marks" "bits" "[J").before args s = true := hat hts 1 rfl
  unfold f_X3_ofLink at hf
  refine lv_iload_n hx hb dX3_ofLink_0 rfl (lv_at hl 2 rfl) ?_
  have F : Fr D A _ [] [] (wdK cI cJ ad mk_width mk_drawn mk_seed mk_nextSeed mk_bits) := fr_nil hP hD hS hA
  refine kZ F hS (rN (As := [.int x2]) (rest := []) ⟨hx, hb, hml, hown, hts⟩ hK hN F (c_X5_isVariant l D cI cJ ad _  x2 (o_res := (f_X5_isVariant x2)) rfl) ⟨va_cnB 1 hts ggX3_ofLink_X5_isVariant rfl rfl rfl hN.2.1 (hat hts 3 rfl) (by decide +kernel) ⟨Nat.le_of_ble_eq_true rfl, Nat.le_of_ble_eq_true rfl⟩, hat hts 2 rfl, trivial⟩ rfl hl.1 rfl (Nat.le_of_ble_eq_true rfl) dX3_ofLink_1 ⟨Nat.zero_le _, Nat.zero_le _⟩) (fun H locs hb1 hP hD hS => ?_)
  refine lv_if_eq (tgt := 31) hx hb dX3_ofLink_4 (by decide) (fun c2 => ?_) (fun c2 => ?_)
  · have hf := oo_t hf c2
    refine lv_lconst (v := (0 : Int64)) hx hb dX3_ofLink_31 (by decide) ?_
    cases hf
    exact hret _ _ _ _ dX3_ofLink_32 hP hD hS
  · have hf := oo_f hf c2
    refine lv_iload_n hx hb dX3_ofLink_7 rfl (lv_at hl 1 rfl) ?_
    refine lv_if_lt (tgt := 31) hx hb dX3_ofLink_8 (by decide) (fun c3 => ?_) (fun c3 => ?_)
    · have hf := oo_t hf c3
      refine lv_lconst (v := (0 : Int64)) hx hb dX3_ofLink_31 (by decide) ?_
      cases hf
      exact hret _ _ _ _ dX3_ofLink_32 hP hD hS
    · have hf := oo_f hf c3
      refine lv_iload_n hx hb dX3_ofLink_11 rfl (lv_at hl 1 rfl) ?_
      refine lv_bipush (v := (16 : Int32)) hx hb dX3_ofLink_12 (by decide) ?_
      refine lv_icmp_ge (tgt := 31) hx hb dX3_ofLink_14 (by decide) (fun c4 => ?_) (fun c4 => ?_)
      · have hf := oo_t hf c4
        refine lv_lconst (v := (0 : Int64)) hx hb dX3_ofLink_31 (by decide) ?_
        cases hf
        exact hret _ _ _ _ dX3_ofLink_32 hP hD hS
      · have hf := oo_f hf c4
        refine lv_aload_n hx hb dX3_ofLink_17 rfl (lv_at hl 0 rfl) ?_
        refine va_get (ci := 3) (v := .ref (ad 11)) (C := RX3) (T := TX3) (N := 5) hx hb hts hin_X3 hown hK hP 0 rfl rfl 4 (by decide) fl_21 (fun _ h9 => h9) rfl dX3_ofLink_18 ?_
        refine lv_bipush (v := (20 : Int32)) hx hb dX3_ofLink_21 (by decide) ?_
        refine lv_iload_n hx hb dX3_ofLink_23 rfl (lv_at hl 2 rfl) ?_
        refine lv_imul hx hb dX3_ofLink_24 ?_
        refine lv_iload_n hx hb dX3_ofLink_25 rfl (lv_at hl 1 rfl) ?_
        refine lv_iadd hx hb dX3_ofLink_26 ?_
        obtain ⟨g5, hf⟩ := oo_g hf
        refine va_lald hx hb hK hP 1 1 rfl rfl g5 dX3_ofLink_27 ?_
        refine lv_goto (tgt := 32) hx hb dX3_ofLink_28 (by decide) ?_
        cases hf
        exact hret _ _ _ _ dX3_ofLink_32 hP hD hS
def f_X3_ofBundle (mk_bits : Nat → Int64) (x1 : Int32) (x2 : Int32) : Option (Int64) :=
  if (f_X5_isVariant x2) = (0 : Int32) then
    some (0 : Int64)
  else
    if (f_X5_isPlace x1) = (0 : Int32) then
      some (0 : Int64)
    else
      if ((((20 : Int32) * x2) + (16 : Int32)) + x1) < 0 ∨ 60 ≤ (((((20 : Int32) * x2) + (16 : Int32)) + x1)).toNatClampNeg then none else
      some (mk_bits (((((20 : Int32) * x2) + (16 : Int32)) + x1)).toNatClampNeg)
abbrev rm_X3_ofBundle : Room := { frames := 1, cells := 0, slots := 0, locals := 20 }
set_option maxHeartbeats 4000000 in
set_option maxRecDepth 100000 in
theorem c_X3_ofBundle (l : Launch) (D : va_G) (cI cJ : ClassId) (ad : Nat → Nat) (sz : Nat) {mk_width mk_drawn mk_seed : Int32} {mk_nextSeed : Int64} {mk_bits : Nat → Int64} (x1 : Int32) (x2 : Int32) {o_res : Int64} (hf : f_X3_ofBundle mk_bits x1 x2 = some o_res) : CtL l yX3_ofBundle wsX3_ofBundle rm_X3_ofBundle D cI cJ [.ref (ad 10), .int x1, .int x2] (wdK cI cJ ad mk_width mk_drawn mk_seed mk_nextSeed mk_bits) sz o_res (wdK cI cJ ad mk_width mk_drawn mk_seed mk_nextSeed mk_bits) := by
  refine ctL_of (cc := cX3_ofBundle) (maxL := 3) (by decide) rfl (Nat.le_of_ble_eq_true rfl) ?_
  intro p e s m below meth c Q A hx hb hml hown hts hK hN hA hret ls hl hP hD hS
  obtain ⟨args, hargs⟩ : ∃ a : Array Value, a = [.ref (ad 10), .int x1, .int x2].toArray := ⟨_, rfl⟩
  rw [← hargs] at hts hret ⊢
  have hown : s.vm.findClass RX3 = some m.cls := hown
  have hl : lv_has ls 3 [(0, .ref (ad 10)), (1, .int x1), (2, .int x2)] := hl
  have hin_X3 : ∀ w ∈ wsX30, w ∈ wsX3_ofBundle := fun _ h => List.mem_cons_of_mem _ (List.mem_append_right _ h)
  have fl_21 : (Cond.fieldLink RX3 21 "FoldedWays$Marks" "bits" "[J").before args s = true := hat hts 1 rfl
  unfold f_X3_ofBundle at hf
  refine lv_iload_n hx hb dX3_ofBundle_0 rfl (lv_at hl 2 rfl) ?_
  have F : Fr D A _ [] [] (wdK cI cJ ad mk_width mk_drawn mk_seed mk_nextSeed mk_bits) := fr_nil hP hD hS hA
  refine kZ F hS (rN (As := [.int x2]) (rest := []) ⟨hx, hb, hml, hown, hts⟩ hK hN F (c_X5_isVariant l D cI cJ ad _  x2 (o_res := (f_X5_isVariant x2)) rfl) ⟨va_cnB 1 hts ggX3_ofBundle_X5_isVariant rfl rfl rfl hN.2.1 (hat hts 3 rfl) (by decide +kernel) ⟨Nat.le_of_ble_eq_true rfl, Nat.le_of_ble_eq_true rfl⟩, hat hts 2 rfl, trivial⟩ rfl hl.1 rfl (Nat.le_of_ble_eq_true rfl) dX3_ofBundle_1 ⟨Nat.zero_le _, Nat.zero_le _⟩) (fun H locs hb1 hP hD hS => ?_)
  refine lv_if_eq (tgt := 31) hx hb dX3_ofBundle_4 (by decide) (fun c2 => ?_) (fun c2 => ?_)
  · have hf := oo_t hf c2
    refine lv_lconst (v := (0 : Int64)) hx hb dX3_ofBundle_31 (by decide) ?_
    cases hf
    exact hret _ _ _ _ dX3_ofBundle_32 hP hD hS
  · have hf := oo_f hf c2
    refine lv_iload_n hx hb dX3_ofBundle_7 rfl (lv_at hl 1 rfl) ?_
    have F : Fr D A _ [] [] (wdK cI cJ ad mk_width mk_drawn mk_seed mk_nextSeed mk_bits) := fr_nil hP hD hS hA
    refine kZ F hS (rN (As := [.int x1]) (rest := []) ⟨hx, hb, hml, hown, hts⟩ hK hN F (c_X5_isPlace l D cI cJ ad _  x1 (o_res := (f_X5_isPlace x1)) rfl) ⟨va_cnB 1 hts ggX3_ofBundle_X5_isPlace rfl rfl rfl hN.2.2.2 (hat hts 3 rfl) (by decide +kernel) ⟨Nat.le_of_ble_eq_true rfl, Nat.le_of_ble_eq_true rfl⟩, hat hts 5 rfl, trivial⟩ rfl hl.1 rfl (Nat.le_of_ble_eq_true rfl) dX3_ofBundle_8 ⟨Nat.zero_le _, Nat.zero_le _⟩) (fun H locs hb3 hP hD hS => ?_)
    refine lv_if_eq (tgt := 31) hx hb dX3_ofBundle_11 (by decide) (fun c4 => ?_) (fun c4 => ?_)
    · have hf := oo_t hf c4
      refine lv_lconst (v := (0 : Int64)) hx hb dX3_ofBundle_31 (by decide) ?_
      cases hf
      exact hret _ _ _ _ dX3_ofBundle_32 hP hD hS
    · have hf := oo_f hf c4
      refine lv_aload_n hx hb dX3_ofBundle_14 rfl (lv_at hl 0 rfl) ?_
      refine va_get (ci := 3) (v := .ref (ad 11)) (C := RX3) (T := TX3) (N := 5) hx hb hts hin_X3 hown hK hP 0 rfl rfl 4 (by decide) fl_21 (fun _ h9 => h9) rfl dX3_ofBundle_15 ?_
      refine lv_bipush (v := (20 : Int32)) hx hb dX3_ofBundle_18 (by decide) ?_
      refine lv_iload_n hx hb dX3_ofBundle_20 rfl (lv_at hl 2 rfl) ?_
      refine lv_imul hx hb dX3_ofBundle_21 ?_
      refine lv_bipush (v := (16 : Int32)) hx hb dX3_ofBundle_22 (by decide) ?_
      refine lv_iadd hx hb dX3_ofBundle_24 ?_
      refine lv_iload_n hx hb dX3_ofBundle_25 rfl (lv_at hl 1 rfl) ?_
      refine lv_iadd hx hb dX3_ofBundle_26 ?_
      obtain ⟨g5, hf⟩ := oo_g hf
      refine va_lald hx hb hK hP 1 1 rfl rfl g5 dX3_ofBundle_27 ?_
      refine lv_goto (tgt := 32) hx hb dX3_ofBundle_28 (by decide) ?_
      cases hf
      exact hret _ _ _ _ dX3_ofBundle_32 hP hD hS
def f_X3_drawBit (mk_width : Int32) (mk_nextSeed : Int64) : Option (Int32 × Int64) :=
  if mk_width ≤ (0 : Int32) then
    some ((0 : Int32), ((((1103515245 : Int64) * mk_nextSeed) + (12345 : Int64)) - (((1103515245 : Int64) * mk_nextSeed) + (12345 : Int64)) / (2147483648 : Int64) * (2147483648 : Int64)))
  else
    if (mk_width).toInt64 = 0 then none else
    some ((((((((1103515245 : Int64) * mk_nextSeed) + (12345 : Int64)) - (((1103515245 : Int64) * mk_nextSeed) + (12345 : Int64)) / (2147483648 : Int64) * (2147483648 : Int64)) / (65536 : Int64)) - (((((1103515245 : Int64) * mk_nextSeed) + (12345 : Int64)) - (((1103515245 : Int64) * mk_nextSeed) + (12345 : Int64)) / (2147483648 : Int64) * (2147483648 : Int64)) / (65536 : Int64)) / (mk_width).toInt64 * (mk_width).toInt64)).toInt32, ((((1103515245 : Int64) * mk_nextSeed) + (12345 : Int64)) - (((1103515245 : Int64) * mk_nextSeed) + (12345 : Int64)) / (2147483648 : Int64) * (2147483648 : Int64)))
abbrev rm_X3_drawBit : Room := { frames := 0, cells := 0, slots := 0, locals := 0 }
set_option maxHeartbeats 4000000 in
set_option maxRecDepth 100000 in
theorem c_X3_drawBit (l : Launch) (D : va_G) (cI cJ : ClassId) (ad : Nat → Nat) (sz : Nat) {mk_width mk_drawn mk_seed : Int32} {mk_nextSeed : Int64} {mk_bits : Nat → Int64}  {o_res : Int32} {o_mk_nextSeed : Int64} (hf : f_X3_drawBit mk_width mk_nextSeed = some (o_res, o_mk_nextSeed)) : CtI l yX3_drawBit wsX3_drawBit rm_X3_drawBit D cI cJ [.ref (ad 10)] (wdK cI cJ ad mk_width mk_drawn mk_seed mk_nextSeed mk_bits) sz o_res (wdK cI cJ ad mk_width mk_drawn mk_seed o_mk_nextSeed mk_bits) := by
  refine ctI_of (cc := cX3_drawBit) (maxL := 1) (by decide) rfl (Nat.le_of_ble_eq_true rfl) ?_
  intro p e s m below meth c Q A hx hb hml hown hts hK hN hA hret ls hl hP hD hS
  obtain ⟨args, hargs⟩ : ∃ a : Array Value, a = [.ref (ad 10)].toArray := ⟨_, rfl⟩
  rw [← hargs] at hts hret ⊢
  have hown : s.vm.findClass RX3 = some m.cls := hown
  have hl : lv_has ls 1 [(0, .ref (ad 10))] := hl
  have hin_X3 : ∀ w ∈ wsX30, w ∈ wsX3_drawBit := fun _ h => List.mem_cons_of_mem _ (List.mem_append_right _ h)
  have fl_9 : (Cond.fieldLink RX3 9 "FoldedWays$Marks" "width" "I").before args s = true := hat hts 5 rfl
  have fl_32 : (Cond.fieldLink RX3 32 "FoldedWays$Marks" "nextSeed" "J").before args s = true := hat hts 2 rfl
  unfold f_X3_drawBit at hf
  refine lv_aload_n hx hb dX3_drawBit_0 rfl (lv_at hl 0 rfl) ?_
  refine lv_ldc2 (v := (1103515245 : Int64)) hx hb hown (hat hts 1 rfl) dX3_drawBit_1 ?_
  refine lv_aload_n hx hb dX3_drawBit_4 rfl (lv_at hl 0 rfl) ?_
  refine va_get (ci := 3) (v := .long mk_nextSeed) (C := RX3) (T := TX3) (N := 5) hx hb hts hin_X3 hown hK hP 0 rfl rfl 3 (by decide) fl_32 (fun _ h9 => h9) rfl dX3_drawBit_5 ?_
  refine lv_lmul hx hb dX3_drawBit_8 ?_
  refine lv_ldc2 (v := (12345 : Int64)) hx hb hown (hat hts 3 rfl) dX3_drawBit_9 ?_
  refine lv_ladd hx hb dX3_drawBit_12 ?_
  refine lv_ldc2 (v := (2147483648 : Int64)) hx hb hown (hat hts 4 rfl) dX3_drawBit_13 ?_
  refine lv_lrem hx hb dX3_drawBit_16 (by decide) ?_
  refine va_put (ci := 3) (v := .long ((((1103515245 : Int64) * mk_nextSeed) + (12345 : Int64)) - (((1103515245 : Int64) * mk_nextSeed) + (12345 : Int64)) / (2147483648 : Int64) * (2147483648 : Int64))) (ty := .long) (C := RX3) (T := TX3) (N := 5) hx hb hts hin_X3 tyX3 tyX3_ok nmX3 hown hK hP hD hS 0 rfl rfl 3 (by decide) fl_32 (fun _ h9 => h9) rfl (by decide +kernel) rfl rfl (Nat.le_of_ble_eq_true rfl) dX3_drawBit_17 (fun H locs hP hD hS => ?_)
  have hP : va_P D vwCl (wdK cI cJ ad mk_width mk_drawn mk_seed ((((1103515245 : Int64) * mk_nextSeed) + (12345 : Int64)) - (((1103515245 : Int64) * mk_nextSeed) + (12345 : Int64)) / (2147483648 : Int64) * (2147483648 : Int64)) mk_bits) H := hP
  have hD : va_D A (wdK cI cJ ad mk_width mk_drawn mk_seed ((((1103515245 : Int64) * mk_nextSeed) + (12345 : Int64)) - (((1103515245 : Int64) * mk_nextSeed) + (12345 : Int64)) / (2147483648 : Int64) * (2147483648 : Int64)) mk_bits) := hD
  refine lv_aload_n hx hb dX3_drawBit_20 rfl (lv_at hl 0 rfl) ?_
  refine va_get (ci := 3) (v := .int mk_width) (C := RX3) (T := TX3) (N := 5) hx hb hts hin_X3 hown hK hP 0 rfl rfl 0 (by decide) fl_9 (fun _ h9 => h9) rfl dX3_drawBit_21 ?_
  refine lv_if_le (tgt := 45) hx hb dX3_drawBit_24 (by decide) (fun c1 => ?_) (fun c1 => ?_)
  · have hf := oo_t hf c1
    refine lv_iconst (v := (0 : Int32)) hx hb dX3_drawBit_45 (by decide) ?_
    cases hf
    exact hret _ _ _ _ dX3_drawBit_46 hP hD hS
  · have hf := oo_f hf c1
    refine lv_aload_n hx hb dX3_drawBit_27 rfl (lv_at hl 0 rfl) ?_
    refine va_get (ci := 3) (v := .long ((((1103515245 : Int64) * mk_nextSeed) + (12345 : Int64)) - (((1103515245 : Int64) * mk_nextSeed) + (12345 : Int64)) / (2147483648 : Int64) * (2147483648 : Int64))) (C := RX3) (T := TX3) (N := 5) hx hb hts hin_X3 hown hK hP 0 rfl rfl 3 (by decide) fl_32 (fun _ h9 => h9) rfl dX3_drawBit_28 ?_
    refine lv_ldc2 (v := (65536 : Int64)) hx hb hown (hat hts 6 rfl) dX3_drawBit_31 ?_
    refine lv_ldiv hx hb dX3_drawBit_34 (by decide) ?_
    refine lv_aload_n hx hb dX3_drawBit_35 rfl (lv_at hl 0 rfl) ?_
    refine va_get (ci := 3) (v := .int mk_width) (C := RX3) (T := TX3) (N := 5) hx hb hts hin_X3 hown hK hP 0 rfl rfl 0 (by decide) fl_9 (fun _ h9 => h9) rfl dX3_drawBit_36 ?_
    refine lv_i2l (v := (mk_width).toInt64) hx hb dX3_drawBit_39 rfl ?_
    obtain ⟨g2, hf⟩ := oo_g hf
    refine lv_lrem hx hb dX3_drawBit_40 g2 ?_
    refine lv_l2i (v := (((((((1103515245 : Int64) * mk_nextSeed) + (12345 : Int64)) - (((1103515245 : Int64) * mk_nextSeed) + (12345 : Int64)) / (2147483648 : Int64) * (2147483648 : Int64)) / (65536 : Int64)) - (((((1103515245 : Int64) * mk_nextSeed) + (12345 : Int64)) - (((1103515245 : Int64) * mk_nextSeed) + (12345 : Int64)) / (2147483648 : Int64) * (2147483648 : Int64)) / (65536 : Int64)) / (mk_width).toInt64 * (mk_width).toInt64)).toInt32) hx hb dX3_drawBit_41 rfl ?_
    refine lv_goto (tgt := 46) hx hb dX3_drawBit_42 (by decide) ?_
    cases hf
    exact hret _ _ _ _ dX3_drawBit_46 hP hD hS
def f_X3_drawMark_L4 (mk_width : Int32) (mk_drawn : Int32) : Nat → Int64 → Int64 → Int32 → Option (Int64 × Int64)
  | 0, _, _, _ => none
  | n + 1, mk_nextSeed_a4, x1_a4, x3_a4 =>
      if mk_drawn ≤ x3_a4 then
        some (mk_nextSeed_a4, x1_a4)
      else
        Option.bind (f_X3_drawBit mk_width mk_nextSeed_a4) fun (r6, mk_nextSeed_7) =>
        f_X3_drawMark_L4 mk_width mk_drawn n mk_nextSeed_7 (x1_a4 ||| ((1 : Int64) <<< ((r6).toInt64 &&& 63))) (x3_a4 + (1 : Int32))
theorem f_X3_drawMark_L4_s (mk_width : Int32) (mk_drawn : Int32) (n : Nat) (mk_nextSeed_a4 : Int64) (x1_a4 : Int64) (x3_a4 : Int32) : f_X3_drawMark_L4 mk_width mk_drawn (n + 1) mk_nextSeed_a4 x1_a4 x3_a4 =
      (if mk_drawn ≤ x3_a4 then
        some (mk_nextSeed_a4, x1_a4)
      else
        Option.bind (f_X3_drawBit mk_width mk_nextSeed_a4) fun (r6, mk_nextSeed_7) =>
        f_X3_drawMark_L4 mk_width mk_drawn n mk_nextSeed_7 (x1_a4 ||| ((1 : Int64) <<< ((r6).toInt64 &&& 63))) (x3_a4 + (1 : Int32))) := rfl
def f_X3_drawMark (mk_width : Int32) (mk_drawn : Int32) (mk_nextSeed : Int64) : Option (Int64 × Int64) :=
  Option.bind (f_X3_drawMark_L4 mk_width mk_drawn 100 mk_nextSeed (0 : Int64) (0 : Int32)) fun (mk_nextSeed_o1, x1_o2) =>
  some (x1_o2, mk_nextSeed_o1)
abbrev rm_X3_drawMark : Room := { frames := 1, cells := 0, slots := 0, locals := 20 }
set_option maxHeartbeats 4000000 in
set_option maxRecDepth 100000 in
theorem c_X3_drawMark (l : Launch) (D : va_G) (cI cJ : ClassId) (ad : Nat → Nat) (sz : Nat) {mk_width mk_drawn mk_seed : Int32} {mk_nextSeed : Int64} {mk_bits : Nat → Int64}  {o_res : Int64} {o_mk_nextSeed : Int64} (hf : f_X3_drawMark mk_width mk_drawn mk_nextSeed = some (o_res, o_mk_nextSeed)) : CtL l yX3_drawMark wsX3_drawMark rm_X3_drawMark D cI cJ [.ref (ad 10)] (wdK cI cJ ad mk_width mk_drawn mk_seed mk_nextSeed mk_bits) sz o_res (wdK cI cJ ad mk_width mk_drawn mk_seed o_mk_nextSeed mk_bits) := by
  refine ctL_of (cc := cX3_drawMark) (maxL := 4) (by decide) rfl (Nat.le_of_ble_eq_true rfl) ?_
  intro p e s m below meth c Q A hx hb hml hown hts hK hN hA hret ls hl hP hD hS
  obtain ⟨args, hargs⟩ : ∃ a : Array Value, a = [.ref (ad 10)].toArray := ⟨_, rfl⟩
  rw [← hargs] at hts hret ⊢
  have hown : s.vm.findClass RX3 = some m.cls := hown
  have hl : lv_has ls 4 [(0, .ref (ad 10))] := hl
  have hin_X3 : ∀ w ∈ wsX30, w ∈ wsX3_drawMark := fun _ h => List.mem_cons_of_mem _ (List.mem_append_right _ h)
  have fl_15 : (Cond.fieldLink RX3 15 "FoldedWays$Marks" "drawn" "I").before args s = true := hat hts 1 rfl
  unfold f_X3_drawMark at hf
  refine lv_lconst (v := (0 : Int64)) hx hb dX3_drawMark_0 (by decide) ?_
  refine lv_lstore_n (lv' := [(1, .long (0 : Int64)), (0, .ref (ad 10))]) hx hb dX3_drawMark_1 rfl hl (by decide) rfl (fun ls hl => ?_)
  refine lv_iconst (v := (0 : Int32)) hx hb dX3_drawMark_2 (by decide) ?_
  refine lv_istore_n (lv' := [(3, .int (0 : Int32)), (1, .long (0 : Int64)), (0, .ref (ad 10))]) hx hb dX3_drawMark_3 rfl hl (by decide) rfl (fun ls hl => ?_)
  have lp3 : ∀ (n : Nat) (mk_nextSeed_a4 : Int64) (x1_a4 : Int64) (x3_a4 : Int32) (mk_nextSeed_o1 : Int64) (x1_o2 : Int64), f_X3_drawMark_L4 mk_width mk_drawn n mk_nextSeed_a4 x1_a4 x3_a4 = some (mk_nextSeed_o1, x1_o2) → (∀ (H : Heap) (locs : List Loc) (ls : Array Slot), va_P D vwCl (wdK cI cJ ad mk_width mk_drawn mk_seed mk_nextSeed_o1 mk_bits) H → va_D A (wdK cI cJ ad mk_width mk_drawn mk_seed mk_nextSeed_o1 mk_bits) → va_S A s.heap H locs → lv_has ls 4 [(1, .long x1_o2)] → W p l e rm_X3_drawMark s m args below meth c H locs 0 0 Q (F0 m 27 ls [])) → ∀ (H : Heap) (locs : List Loc) (ls : Array Slot), va_P D vwCl (wdK cI cJ ad mk_width mk_drawn mk_seed mk_nextSeed_a4 mk_bits) H → va_D A (wdK cI cJ ad mk_width mk_drawn mk_seed mk_nextSeed_a4 mk_bits) → va_S A s.heap H locs → lv_has ls 4 [(0, .ref (ad 10)), (1, .long x1_a4), (3, .int x3_a4)] → W p l e rm_X3_drawMark s m args below meth c H locs 0 0 Q (F0 m 4 ls []) := by
    intro n
    induction n with
    | zero =>
      intro mk_nextSeed_a4 x1_a4 x3_a4 mk_nextSeed_o1 x1_o2 h0
      exact oo_n h0
    | succ n ih =>
      intro mk_nextSeed_a4 x1_a4 x3_a4 mk_nextSeed_o1 x1_o2 hf kk H locs ls hP hD hS hl
      rw [f_X3_drawMark_L4_s] at hf
      refine lv_iload_n hx hb dX3_drawMark_4 rfl (lv_at hl 2 rfl) ?_
      refine lv_aload_n hx hb dX3_drawMark_5 rfl (lv_at hl 0 rfl) ?_
      refine va_get (ci := 3) (v := .int mk_drawn) (C := RX3) (T := TX3) (N := 5) hx hb hts hin_X3 hown hK hP 0 rfl rfl 1 (by decide) fl_15 (fun _ h9 => h9) rfl dX3_drawMark_6 ?_
      refine lv_icmp_ge (tgt := 27) hx hb dX3_drawMark_9 (by decide) (fun c4 => ?_) (fun c4 => ?_)
      · have hf := oo_t hf c4
        cases hf
        exact kk _ _ _ hP hD hS (lv_sub hl [1] rfl)
      · have hf := oo_f hf c4
        refine lv_lload_n hx hb dX3_drawMark_12 rfl (lv_at hl 1 rfl) ?_
        refine lv_lconst (v := (1 : Int64)) hx hb dX3_drawMark_13 (by decide) ?_
        refine lv_aload_n hx hb dX3_drawMark_14 rfl (lv_at hl 0 rfl) ?_
        obtain ⟨⟨r6, mk_nextSeed_7⟩, h5, hf⟩ := oo_b hf
        try dsimp only at hf
        have F : Fr D A _ (wdK cI cJ ad mk_width mk_drawn mk_seed mk_nextSeed_a4 mk_bits) (wdK cI cJ ad mk_width mk_drawn mk_seed mk_nextSeed_7 mk_bits) (wdK cI cJ ad mk_width mk_drawn mk_seed mk_nextSeed_7 mk_bits) := fr_self hP hD hS hA
        refine kI F hS (rV (q := (RX3, TX3, 5)) (As := []) (rest := [.long (1 : Int64), .long x1_a4]) ⟨hx, hb, hml, hown, hts⟩ hK hN F (c_X3_drawBit l D cI cJ ad _ (mk_width := mk_width) (mk_drawn := mk_drawn) (mk_seed := mk_seed) (mk_nextSeed := mk_nextSeed_a4) (mk_bits := mk_bits)  (o_res := r6) (o_mk_nextSeed := mk_nextSeed_7) h5) (cwV 0 hts gX3_drawMark_X3_drawBit rfl rfl rfl (by decide +kernel) ⟨Nat.le_of_ble_eq_true rfl, Nat.le_of_ble_eq_true rfl⟩) (ci := 3) rfl rfl rfl hl.1 rfl (Nat.le_of_ble_eq_true rfl) dX3_drawMark_15 ⟨Nat.zero_le _, Nat.zero_le _⟩) (fun H locs hP hD hS => ?_)
        refine lv_lshl (v := ((1 : Int64) <<< ((r6).toInt64 &&& 63))) hx hb dX3_drawMark_18 rfl ?_
        refine lv_lor hx hb dX3_drawMark_19 ?_
        refine lv_lstore_n (lv' := [(1, .long (x1_a4 ||| ((1 : Int64) <<< ((r6).toInt64 &&& 63)))), (0, .ref (ad 10)), (3, .int x3_a4)]) hx hb dX3_drawMark_20 rfl hl (by decide) rfl (fun ls hl => ?_)
        refine lv_iinc (v := (x3_a4 + (1 : Int32))) (lv' := [(3, .int (x3_a4 + (1 : Int32))), (1, .long (x1_a4 ||| ((1 : Int64) <<< ((r6).toInt64 &&& 63)))), (0, .ref (ad 10))]) hx hb dX3_drawMark_21 hl (k := 2) rfl rfl (by decide) rfl (fun ls hl => ?_)
        refine lv_goto (tgt := 4) hx hb dX3_drawMark_24 (by decide) ?_
        exact ih mk_nextSeed_7 (x1_a4 ||| ((1 : Int64) <<< ((r6).toInt64 &&& 63))) (x3_a4 + (1 : Int32)) _ _ hf kk _ _ _ hP hD hS (lv_sub hl [2, 1, 0] rfl)
  obtain ⟨⟨mk_nextSeed_o1, x1_o2⟩, h9, hf⟩ := oo_b hf
  try dsimp only at hf
  refine lp3  100 mk_nextSeed (0 : Int64) (0 : Int32) mk_nextSeed_o1 x1_o2 h9 (fun H locs ls hP hD hS hl => ?_) _ _ _ hP hD hS (lv_sub hl [2, 1, 0] rfl)
  refine lv_lload_n hx hb dX3_drawMark_27 rfl (lv_at hl 0 rfl) ?_
  cases hf
  exact hret _ _ _ _ dX3_drawMark_28 hP hD hS
def f_X3_drawAll_L18 (mk_width : Int32) (mk_drawn : Int32) (x1 : Int32) (x2_a11 : Int32) : Nat → Int64 → (Nat → Int64) → Int32 → Option (Int64 × (Nat → Int64))
  | 0, _, _, _ => none
  | n + 1, mk_nextSeed_a18, mk_bits_a18, x3_a18 =>
      if x1 ≤ x3_a18 then
        some (mk_nextSeed_a18, mk_bits_a18)
      else
        if (16 : Int32) ≤ x3_a18 then
          some (mk_nextSeed_a18, mk_bits_a18)
        else
          Option.bind (f_X3_drawMark mk_width mk_drawn mk_nextSeed_a18) fun (r11, mk_nextSeed_12) =>
          if (((20 : Int32) * x2_a11) + x3_a18) < 0 ∨ 60 ≤ ((((20 : Int32) * x2_a11) + x3_a18)).toNatClampNeg then none else
          f_X3_drawAll_L18 mk_width mk_drawn x1 x2_a11 n mk_nextSeed_12 (vp_updL mk_bits_a18 ((((20 : Int32) * x2_a11) + x3_a18)).toNatClampNeg r11) (x3_a18 + (1 : Int32))
theorem f_X3_drawAll_L18_s (mk_width : Int32) (mk_drawn : Int32) (x1 : Int32) (x2_a11 : Int32) (n : Nat) (mk_nextSeed_a18 : Int64) (mk_bits_a18 : Nat → Int64) (x3_a18 : Int32) : f_X3_drawAll_L18 mk_width mk_drawn x1 x2_a11 (n + 1) mk_nextSeed_a18 mk_bits_a18 x3_a18 =
      (if x1 ≤ x3_a18 then
        some (mk_nextSeed_a18, mk_bits_a18)
      else
        if (16 : Int32) ≤ x3_a18 then
          some (mk_nextSeed_a18, mk_bits_a18)
        else
          Option.bind (f_X3_drawMark mk_width mk_drawn mk_nextSeed_a18) fun (r11, mk_nextSeed_12) =>
          if (((20 : Int32) * x2_a11) + x3_a18) < 0 ∨ 60 ≤ ((((20 : Int32) * x2_a11) + x3_a18)).toNatClampNeg then none else
          f_X3_drawAll_L18 mk_width mk_drawn x1 x2_a11 n mk_nextSeed_12 (vp_updL mk_bits_a18 ((((20 : Int32) * x2_a11) + x3_a18)).toNatClampNeg r11) (x3_a18 + (1 : Int32))) := rfl
def f_X3_drawAll_L52 (mk_width : Int32) (mk_drawn : Int32) (x2_a11 : Int32) : Nat → Int64 → (Nat → Int64) → Int32 → Option (Int64 × (Nat → Int64))
  | 0, _, _, _ => none
  | n + 1, mk_nextSeed_a52, mk_bits_a52, x3_a52 =>
      if (4 : Int32) ≤ x3_a52 then
        some (mk_nextSeed_a52, mk_bits_a52)
      else
        Option.bind (f_X3_drawMark mk_width mk_drawn mk_nextSeed_a52) fun (r21, mk_nextSeed_22) =>
        if ((((20 : Int32) * x2_a11) + (16 : Int32)) + x3_a52) < 0 ∨ 60 ≤ (((((20 : Int32) * x2_a11) + (16 : Int32)) + x3_a52)).toNatClampNeg then none else
        f_X3_drawAll_L52 mk_width mk_drawn x2_a11 n mk_nextSeed_22 (vp_updL mk_bits_a52 (((((20 : Int32) * x2_a11) + (16 : Int32)) + x3_a52)).toNatClampNeg r21) (x3_a52 + (1 : Int32))
theorem f_X3_drawAll_L52_s (mk_width : Int32) (mk_drawn : Int32) (x2_a11 : Int32) (n : Nat) (mk_nextSeed_a52 : Int64) (mk_bits_a52 : Nat → Int64) (x3_a52 : Int32) : f_X3_drawAll_L52 mk_width mk_drawn x2_a11 (n + 1) mk_nextSeed_a52 mk_bits_a52 x3_a52 =
      (if (4 : Int32) ≤ x3_a52 then
        some (mk_nextSeed_a52, mk_bits_a52)
      else
        Option.bind (f_X3_drawMark mk_width mk_drawn mk_nextSeed_a52) fun (r21, mk_nextSeed_22) =>
        if ((((20 : Int32) * x2_a11) + (16 : Int32)) + x3_a52) < 0 ∨ 60 ≤ (((((20 : Int32) * x2_a11) + (16 : Int32)) + x3_a52)).toNatClampNeg then none else
        f_X3_drawAll_L52 mk_width mk_drawn x2_a11 n mk_nextSeed_22 (vp_updL mk_bits_a52 (((((20 : Int32) * x2_a11) + (16 : Int32)) + x3_a52)).toNatClampNeg r21) (x3_a52 + (1 : Int32))) := rfl
def f_X3_drawAll_L11 (mk_width : Int32) (mk_drawn : Int32) (x1 : Int32) : Nat → Int64 → (Nat → Int64) → Int32 → Option (Int64 × (Nat → Int64))
  | 0, _, _, _ => none
  | n + 1, mk_nextSeed_a11, mk_bits_a11, x2_a11 =>
      if (3 : Int32) ≤ x2_a11 then
        some (mk_nextSeed_a11, mk_bits_a11)
      else
        Option.bind (f_X3_drawAll_L18 mk_width mk_drawn x1 x2_a11 100 mk_nextSeed_a11 mk_bits_a11 (0 : Int32)) fun (mk_nextSeed_o5, mk_bits_o6) =>
        Option.bind (f_X3_drawAll_L52 mk_width mk_drawn x2_a11 100 mk_nextSeed_o5 mk_bits_o6 (0 : Int32)) fun (mk_nextSeed_o16, mk_bits_o17) =>
        f_X3_drawAll_L11 mk_width mk_drawn x1 n mk_nextSeed_o16 mk_bits_o17 (x2_a11 + (1 : Int32))
theorem f_X3_drawAll_L11_s (mk_width : Int32) (mk_drawn : Int32) (x1 : Int32) (n : Nat) (mk_nextSeed_a11 : Int64) (mk_bits_a11 : Nat → Int64) (x2_a11 : Int32) : f_X3_drawAll_L11 mk_width mk_drawn x1 (n + 1) mk_nextSeed_a11 mk_bits_a11 x2_a11 =
      (if (3 : Int32) ≤ x2_a11 then
        some (mk_nextSeed_a11, mk_bits_a11)
      else
        Option.bind (f_X3_drawAll_L18 mk_width mk_drawn x1 x2_a11 100 mk_nextSeed_a11 mk_bits_a11 (0 : Int32)) fun (mk_nextSeed_o5, mk_bits_o6) =>
        Option.bind (f_X3_drawAll_L52 mk_width mk_drawn x2_a11 100 mk_nextSeed_o5 mk_bits_o6 (0 : Int32)) fun (mk_nextSeed_o16, mk_bits_o17) =>
        f_X3_drawAll_L11 mk_width mk_drawn x1 n mk_nextSeed_o16 mk_bits_o17 (x2_a11 + (1 : Int32))) := rfl
def f_X3_drawAll (mk_width : Int32) (mk_drawn : Int32) (mk_seed : Int32) (mk_bits : Nat → Int64) (x1 : Int32) : Option (Int64 × (Nat → Int64)) :=
  Option.bind (f_X3_drawAll_L11 mk_width mk_drawn x1 100 ((mk_seed).toInt64) mk_bits (0 : Int32)) fun (mk_nextSeed_o1, mk_bits_o2) =>
  some (mk_nextSeed_o1, mk_bits_o2)
abbrev rm_X3_drawAll : Room := { frames := 2, cells := 0, slots := 0, locals := 43 }
set_option maxHeartbeats 4000000 in
set_option maxRecDepth 100000 in
theorem c_X3_drawAll (l : Launch) (D : va_G) (cI cJ : ClassId) (ad : Nat → Nat) (sz : Nat) {mk_width mk_drawn mk_seed : Int32} {mk_nextSeed : Int64} {mk_bits : Nat → Int64} (x1 : Int32) {o_mk_nextSeed : Int64} {o_mk_bits : Nat → Int64} (hf : f_X3_drawAll mk_width mk_drawn mk_seed mk_bits x1 = some (o_mk_nextSeed, o_mk_bits)) : CtV l yX3_drawAll wsX3_drawAll rm_X3_drawAll D cI cJ [.ref (ad 10), .int x1] (wdK cI cJ ad mk_width mk_drawn mk_seed mk_nextSeed mk_bits) sz (wdK cI cJ ad mk_width mk_drawn mk_seed o_mk_nextSeed o_mk_bits) := by
  refine ctV_of (cc := cX3_drawAll) (maxL := 4) (by decide) rfl (Nat.le_of_ble_eq_true rfl) ?_
  intro p e s m below meth c Q A hx hb hml hown hts hK hN hA hret ls hl hP hD hS
  obtain ⟨args, hargs⟩ : ∃ a : Array Value, a = [.ref (ad 10), .int x1].toArray := ⟨_, rfl⟩
  rw [← hargs] at hts hret ⊢
  have hown : s.vm.findClass RX3 = some m.cls := hown
  have hl : lv_has ls 4 [(0, .ref (ad 10)), (1, .int x1)] := hl
  have hin_X3 : ∀ w ∈ wsX30, w ∈ wsX3_drawAll := fun _ h => List.mem_cons_of_mem _ (List.mem_append_right _ h)
  have fl_18 : (Cond.fieldLink RX3 18 "FoldedWays$Marks" "seed" "I").before args s = true := hat hts 1 rfl
  have fl_21 : (Cond.fieldLink RX3 21 "FoldedWays$Marks" "bits" "[J").before args s = true := hat hts 3 rfl
  have fl_32 : (Cond.fieldLink RX3 32 "FoldedWays$Marks" "nextSeed" "J").before args s = true := hat hts 2 rfl
  unfold f_X3_drawAll at hf
  refine lv_aload_n hx hb dX3_drawAll_0 rfl (lv_at hl 0 rfl) ?_
  refine lv_aload_n hx hb dX3_drawAll_1 rfl (lv_at hl 0 rfl) ?_
  refine va_get (ci := 3) (v := .int mk_seed) (C := RX3) (T := TX3) (N := 5) hx hb hts hin_X3 hown hK hP 0 rfl rfl 2 (by decide) fl_18 (fun _ h9 => h9) rfl dX3_drawAll_2 ?_
  refine lv_i2l (v := (mk_seed).toInt64) hx hb dX3_drawAll_5 rfl ?_
  refine va_put (ci := 3) (v := .long ((mk_seed).toInt64)) (ty := .long) (C := RX3) (T := TX3) (N := 5) hx hb hts hin_X3 tyX3 tyX3_ok nmX3 hown hK hP hD hS 0 rfl rfl 3 (by decide) fl_32 (fun _ h9 => h9) rfl (by decide +kernel) rfl rfl (Nat.le_of_ble_eq_true rfl) dX3_drawAll_6 (fun H locs hP hD hS => ?_)
  have hP : va_P D vwCl (wdK cI cJ ad mk_width mk_drawn mk_seed ((mk_seed).toInt64) mk_bits) H := hP
  have hD : va_D A (wdK cI cJ ad mk_width mk_drawn mk_seed ((mk_seed).toInt64) mk_bits) := hD
  refine lv_iconst (v := (0 : Int32)) hx hb dX3_drawAll_9 (by decide) ?_
  refine lv_istore_n (lv' := [(2, .int (0 : Int32)), (0, .ref (ad 10)), (1, .int x1)]) hx hb dX3_drawAll_10 rfl hl (by decide) rfl (fun ls hl => ?_)
  have lp3 : ∀ (n : Nat) (mk_nextSeed_a11 : Int64) (mk_bits_a11 : Nat → Int64) (x2_a11 : Int32) (mk_nextSeed_o1 : Int64) (mk_bits_o2 : Nat → Int64), f_X3_drawAll_L11 mk_width mk_drawn x1 n mk_nextSeed_a11 mk_bits_a11 x2_a11 = some (mk_nextSeed_o1, mk_bits_o2) → (∀ (H : Heap) (locs : List Loc) (ls : Array Slot), va_P D vwCl (wdK cI cJ ad mk_width mk_drawn mk_seed mk_nextSeed_o1 mk_bits_o2) H → va_D A (wdK cI cJ ad mk_width mk_drawn mk_seed mk_nextSeed_o1 mk_bits_o2) → va_S A s.heap H locs → lv_has ls 4 [] → W p l e rm_X3_drawAll s m args below meth c H locs 0 0 Q (F0 m 87 ls [])) → ∀ (H : Heap) (locs : List Loc) (ls : Array Slot), va_P D vwCl (wdK cI cJ ad mk_width mk_drawn mk_seed mk_nextSeed_a11 mk_bits_a11) H → va_D A (wdK cI cJ ad mk_width mk_drawn mk_seed mk_nextSeed_a11 mk_bits_a11) → va_S A s.heap H locs → lv_has ls 4 [(0, .ref (ad 10)), (1, .int x1), (2, .int x2_a11)] → W p l e rm_X3_drawAll s m args below meth c H locs 0 0 Q (F0 m 11 ls []) := by
    intro n
    induction n with
    | zero =>
      intro mk_nextSeed_a11 mk_bits_a11 x2_a11 mk_nextSeed_o1 mk_bits_o2 h0
      exact oo_n h0
    | succ n ih =>
      intro mk_nextSeed_a11 mk_bits_a11 x2_a11 mk_nextSeed_o1 mk_bits_o2 hf kk H locs ls hP hD hS hl
      rw [f_X3_drawAll_L11_s] at hf
      refine lv_iload_n hx hb dX3_drawAll_11 rfl (lv_at hl 2 rfl) ?_
      refine lv_iconst (v := (3 : Int32)) hx hb dX3_drawAll_12 (by decide) ?_
      refine lv_icmp_ge (tgt := 87) hx hb dX3_drawAll_13 (by decide) (fun c4 => ?_) (fun c4 => ?_)
      · have hf := oo_t hf c4
        cases hf
        exact kk _ _ _ hP hD hS (lv_sub hl [] rfl)
      · have hf := oo_f hf c4
        refine lv_iconst (v := (0 : Int32)) hx hb dX3_drawAll_16 (by decide) ?_
        refine lv_istore_n (lv' := [(3, .int (0 : Int32)), (0, .ref (ad 10)), (1, .int x1), (2, .int x2_a11)]) hx hb dX3_drawAll_17 rfl hl (by decide) rfl (fun ls hl => ?_)
        have lp7 : ∀ (n : Nat) (mk_nextSeed_a18 : Int64) (mk_bits_a18 : Nat → Int64) (x3_a18 : Int32) (mk_nextSeed_o5 : Int64) (mk_bits_o6 : Nat → Int64), f_X3_drawAll_L18 mk_width mk_drawn x1 x2_a11 n mk_nextSeed_a18 mk_bits_a18 x3_a18 = some (mk_nextSeed_o5, mk_bits_o6) → (∀ (H : Heap) (locs : List Loc) (ls : Array Slot), va_P D vwCl (wdK cI cJ ad mk_width mk_drawn mk_seed mk_nextSeed_o5 mk_bits_o6) H → va_D A (wdK cI cJ ad mk_width mk_drawn mk_seed mk_nextSeed_o5 mk_bits_o6) → va_S A s.heap H locs → lv_has ls 4 [(0, .ref (ad 10)), (1, .int x1), (2, .int x2_a11)] → W p l e rm_X3_drawAll s m args below meth c H locs 0 0 Q (F0 m 50 ls [])) → ∀ (H : Heap) (locs : List Loc) (ls : Array Slot), va_P D vwCl (wdK cI cJ ad mk_width mk_drawn mk_seed mk_nextSeed_a18 mk_bits_a18) H → va_D A (wdK cI cJ ad mk_width mk_drawn mk_seed mk_nextSeed_a18 mk_bits_a18) → va_S A s.heap H locs → lv_has ls 4 [(0, .ref (ad 10)), (1, .int x1), (2, .int x2_a11), (3, .int x3_a18)] → W p l e rm_X3_drawAll s m args below meth c H locs 0 0 Q (F0 m 18 ls []) := by
          intro n
          induction n with
          | zero =>
            intro mk_nextSeed_a18 mk_bits_a18 x3_a18 mk_nextSeed_o5 mk_bits_o6 h0
            exact oo_n h0
          | succ n ih =>
            intro mk_nextSeed_a18 mk_bits_a18 x3_a18 mk_nextSeed_o5 mk_bits_o6 hf kk H locs ls hP hD hS hl
            rw [f_X3_drawAll_L18_s] at hf
            refine lv_iload_n hx hb dX3_drawAll_18 rfl (lv_at hl 3 rfl) ?_
            refine lv_iload_n hx hb dX3_drawAll_19 rfl (lv_at hl 1 rfl) ?_
            refine lv_icmp_ge (tgt := 50) hx hb dX3_drawAll_20 (by decide) (fun c8 => ?_) (fun c8 => ?_)
            · have hf := oo_t hf c8
              cases hf
              exact kk _ _ _ hP hD hS (lv_sub hl [0, 1, 2] rfl)
            · have hf := oo_f hf c8
              refine lv_iload_n hx hb dX3_drawAll_23 rfl (lv_at hl 3 rfl) ?_
              refine lv_bipush (v := (16 : Int32)) hx hb dX3_drawAll_24 (by decide) ?_
              refine lv_icmp_ge (tgt := 50) hx hb dX3_drawAll_26 (by decide) (fun c9 => ?_) (fun c9 => ?_)
              · have hf := oo_t hf c9
                cases hf
                exact kk _ _ _ hP hD hS (lv_sub hl [0, 1, 2] rfl)
              · have hf := oo_f hf c9
                refine lv_aload_n hx hb dX3_drawAll_29 rfl (lv_at hl 0 rfl) ?_
                refine va_get (ci := 3) (v := .ref (ad 11)) (C := RX3) (T := TX3) (N := 5) hx hb hts hin_X3 hown hK hP 0 rfl rfl 4 (by decide) fl_21 (fun _ h9 => h9) rfl dX3_drawAll_30 ?_
                refine lv_bipush (v := (20 : Int32)) hx hb dX3_drawAll_33 (by decide) ?_
                refine lv_iload_n hx hb dX3_drawAll_35 rfl (lv_at hl 2 rfl) ?_
                refine lv_imul hx hb dX3_drawAll_36 ?_
                refine lv_iload_n hx hb dX3_drawAll_37 rfl (lv_at hl 3 rfl) ?_
                refine lv_iadd hx hb dX3_drawAll_38 ?_
                refine lv_aload_n hx hb dX3_drawAll_39 rfl (lv_at hl 0 rfl) ?_
                obtain ⟨⟨r11, mk_nextSeed_12⟩, h10, hf⟩ := oo_b hf
                try dsimp only at hf
                have F : Fr D A _ (wdK cI cJ ad mk_width mk_drawn mk_seed mk_nextSeed_a18 mk_bits_a18) (wdK cI cJ ad mk_width mk_drawn mk_seed mk_nextSeed_12 mk_bits_a18) (wdK cI cJ ad mk_width mk_drawn mk_seed mk_nextSeed_12 mk_bits_a18) := fr_self hP hD hS hA
                refine kL F hS (rV (q := (RX3, TX3, 5)) (As := []) (rest := [.int (((20 : Int32) * x2_a11) + x3_a18), .ref (ad 11)]) ⟨hx, hb, hml, hown, hts⟩ hK hN F (c_X3_drawMark l D cI cJ ad _ (mk_width := mk_width) (mk_drawn := mk_drawn) (mk_seed := mk_seed) (mk_nextSeed := mk_nextSeed_a18) (mk_bits := mk_bits_a18)  (o_res := r11) (o_mk_nextSeed := mk_nextSeed_12) h10) (cwV 0 hts gX3_drawAll_X3_drawMark rfl rfl rfl (by decide +kernel) ⟨Nat.le_of_ble_eq_true rfl, Nat.le_of_ble_eq_true rfl⟩) (ci := 3) rfl rfl rfl hl.1 rfl (Nat.le_of_ble_eq_true rfl) dX3_drawAll_40 ⟨Nat.zero_le _, Nat.zero_le _⟩) (fun H locs hP hD hS => ?_)
                obtain ⟨g14, hf⟩ := oo_g hf
                refine va_last hx hb hK hP hD hS 1 1 rfl rfl g14 dX3_drawAll_43 (fun H locs hP hD hS => ?_)
                have hP : va_P D vwCl (wdK cI cJ ad mk_width mk_drawn mk_seed mk_nextSeed_12 (vp_updL mk_bits_a18 ((((20 : Int32) * x2_a11) + x3_a18)).toNatClampNeg r11)) H := hP
                have hD : va_D A (wdK cI cJ ad mk_width mk_drawn mk_seed mk_nextSeed_12 (vp_updL mk_bits_a18 ((((20 : Int32) * x2_a11) + x3_a18)).toNatClampNeg r11)) := hD
                refine lv_iinc (v := (x3_a18 + (1 : Int32))) (lv' := [(3, .int (x3_a18 + (1 : Int32))), (0, .ref (ad 10)), (1, .int x1), (2, .int x2_a11)]) hx hb dX3_drawAll_44 hl (k := 3) rfl rfl (by decide) rfl (fun ls hl => ?_)
                refine lv_goto (tgt := 18) hx hb dX3_drawAll_47 (by decide) ?_
                exact ih mk_nextSeed_12 (vp_updL mk_bits_a18 ((((20 : Int32) * x2_a11) + x3_a18)).toNatClampNeg r11) (x3_a18 + (1 : Int32)) _ _ hf kk _ _ _ hP hD hS (lv_sub hl [1, 2, 3, 0] rfl)
        obtain ⟨⟨mk_nextSeed_o5, mk_bits_o6⟩, h15, hf⟩ := oo_b hf
        try dsimp only at hf
        refine lp7  100 mk_nextSeed_a11 mk_bits_a11 (0 : Int32) mk_nextSeed_o5 mk_bits_o6 h15 (fun H locs ls hP hD hS hl => ?_) _ _ _ hP hD hS (lv_sub hl [1, 2, 3, 0] rfl)
        refine lv_iconst (v := (0 : Int32)) hx hb dX3_drawAll_50 (by decide) ?_
        refine lv_istore_n (lv' := [(3, .int (0 : Int32)), (0, .ref (ad 10)), (1, .int x1), (2, .int x2_a11)]) hx hb dX3_drawAll_51 rfl hl (by decide) rfl (fun ls hl => ?_)
        have lp18 : ∀ (n : Nat) (mk_nextSeed_a52 : Int64) (mk_bits_a52 : Nat → Int64) (x3_a52 : Int32) (mk_nextSeed_o16 : Int64) (mk_bits_o17 : Nat → Int64), f_X3_drawAll_L52 mk_width mk_drawn x2_a11 n mk_nextSeed_a52 mk_bits_a52 x3_a52 = some (mk_nextSeed_o16, mk_bits_o17) → (∀ (H : Heap) (locs : List Loc) (ls : Array Slot), va_P D vwCl (wdK cI cJ ad mk_width mk_drawn mk_seed mk_nextSeed_o16 mk_bits_o17) H → va_D A (wdK cI cJ ad mk_width mk_drawn mk_seed mk_nextSeed_o16 mk_bits_o17) → va_S A s.heap H locs → lv_has ls 4 [(0, .ref (ad 10)), (1, .int x1), (2, .int x2_a11)] → W p l e rm_X3_drawAll s m args below meth c H locs 0 0 Q (F0 m 81 ls [])) → ∀ (H : Heap) (locs : List Loc) (ls : Array Slot), va_P D vwCl (wdK cI cJ ad mk_width mk_drawn mk_seed mk_nextSeed_a52 mk_bits_a52) H → va_D A (wdK cI cJ ad mk_width mk_drawn mk_seed mk_nextSeed_a52 mk_bits_a52) → va_S A s.heap H locs → lv_has ls 4 [(0, .ref (ad 10)), (1, .int x1), (2, .int x2_a11), (3, .int x3_a52)] → W p l e rm_X3_drawAll s m args below meth c H locs 0 0 Q (F0 m 52 ls []) := by
          intro n
          induction n with
          | zero =>
            intro mk_nextSeed_a52 mk_bits_a52 x3_a52 mk_nextSeed_o16 mk_bits_o17 h0
            exact oo_n h0
          | succ n ih =>
            intro mk_nextSeed_a52 mk_bits_a52 x3_a52 mk_nextSeed_o16 mk_bits_o17 hf kk H locs ls hP hD hS hl
            rw [f_X3_drawAll_L52_s] at hf
            refine lv_iload_n hx hb dX3_drawAll_52 rfl (lv_at hl 3 rfl) ?_
            refine lv_iconst (v := (4 : Int32)) hx hb dX3_drawAll_53 (by decide) ?_
            refine lv_icmp_ge (tgt := 81) hx hb dX3_drawAll_54 (by decide) (fun c19 => ?_) (fun c19 => ?_)
            · have hf := oo_t hf c19
              cases hf
              exact kk _ _ _ hP hD hS (lv_sub hl [0, 1, 2] rfl)
            · have hf := oo_f hf c19
              refine lv_aload_n hx hb dX3_drawAll_57 rfl (lv_at hl 0 rfl) ?_
              refine va_get (ci := 3) (v := .ref (ad 11)) (C := RX3) (T := TX3) (N := 5) hx hb hts hin_X3 hown hK hP 0 rfl rfl 4 (by decide) fl_21 (fun _ h9 => h9) rfl dX3_drawAll_58 ?_
              refine lv_bipush (v := (20 : Int32)) hx hb dX3_drawAll_61 (by decide) ?_
              refine lv_iload_n hx hb dX3_drawAll_63 rfl (lv_at hl 2 rfl) ?_
              refine lv_imul hx hb dX3_drawAll_64 ?_
              refine lv_bipush (v := (16 : Int32)) hx hb dX3_drawAll_65 (by decide) ?_
              refine lv_iadd hx hb dX3_drawAll_67 ?_
              refine lv_iload_n hx hb dX3_drawAll_68 rfl (lv_at hl 3 rfl) ?_
              refine lv_iadd hx hb dX3_drawAll_69 ?_
              refine lv_aload_n hx hb dX3_drawAll_70 rfl (lv_at hl 0 rfl) ?_
              obtain ⟨⟨r21, mk_nextSeed_22⟩, h20, hf⟩ := oo_b hf
              try dsimp only at hf
              have F : Fr D A _ (wdK cI cJ ad mk_width mk_drawn mk_seed mk_nextSeed_a52 mk_bits_a52) (wdK cI cJ ad mk_width mk_drawn mk_seed mk_nextSeed_22 mk_bits_a52) (wdK cI cJ ad mk_width mk_drawn mk_seed mk_nextSeed_22 mk_bits_a52) := fr_self hP hD hS hA
              refine kL F hS (rV (q := (RX3, TX3, 5)) (As := []) (rest := [.int ((((20 : Int32) * x2_a11) + (16 : Int32)) + x3_a52), .ref (ad 11)]) ⟨hx, hb, hml, hown, hts⟩ hK hN F (c_X3_drawMark l D cI cJ ad _ (mk_width := mk_width) (mk_drawn := mk_drawn) (mk_seed := mk_seed) (mk_nextSeed := mk_nextSeed_a52) (mk_bits := mk_bits_a52)  (o_res := r21) (o_mk_nextSeed := mk_nextSeed_22) h20) (cwV 0 hts gX3_drawAll_X3_drawMark rfl rfl rfl (by decide +kernel) ⟨Nat.le_of_ble_eq_true rfl, Nat.le_of_ble_eq_true rfl⟩) (ci := 3) rfl rfl rfl hl.1 rfl (Nat.le_of_ble_eq_true rfl) dX3_drawAll_71 ⟨Nat.zero_le _, Nat.zero_le _⟩) (fun H locs hP hD hS => ?_)
              obtain ⟨g24, hf⟩ := oo_g hf
              refine va_last hx hb hK hP hD hS 1 1 rfl rfl g24 dX3_drawAll_74 (fun H locs hP hD hS => ?_)
              have hP : va_P D vwCl (wdK cI cJ ad mk_width mk_drawn mk_seed mk_nextSeed_22 (vp_updL mk_bits_a52 (((((20 : Int32) * x2_a11) + (16 : Int32)) + x3_a52)).toNatClampNeg r21)) H := hP
              have hD : va_D A (wdK cI cJ ad mk_width mk_drawn mk_seed mk_nextSeed_22 (vp_updL mk_bits_a52 (((((20 : Int32) * x2_a11) + (16 : Int32)) + x3_a52)).toNatClampNeg r21)) := hD
              refine lv_iinc (v := (x3_a52 + (1 : Int32))) (lv' := [(3, .int (x3_a52 + (1 : Int32))), (0, .ref (ad 10)), (1, .int x1), (2, .int x2_a11)]) hx hb dX3_drawAll_75 hl (k := 3) rfl rfl (by decide) rfl (fun ls hl => ?_)
              refine lv_goto (tgt := 52) hx hb dX3_drawAll_78 (by decide) ?_
              exact ih mk_nextSeed_22 (vp_updL mk_bits_a52 (((((20 : Int32) * x2_a11) + (16 : Int32)) + x3_a52)).toNatClampNeg r21) (x3_a52 + (1 : Int32)) _ _ hf kk _ _ _ hP hD hS (lv_sub hl [1, 2, 3, 0] rfl)
        obtain ⟨⟨mk_nextSeed_o16, mk_bits_o17⟩, h25, hf⟩ := oo_b hf
        try dsimp only at hf
        refine lp18  100 mk_nextSeed_o5 mk_bits_o6 (0 : Int32) mk_nextSeed_o16 mk_bits_o17 h25 (fun H locs ls hP hD hS hl => ?_) _ _ _ hP hD hS (lv_sub hl [1, 2, 3, 0] rfl)
        refine lv_iinc (v := (x2_a11 + (1 : Int32))) (lv' := [(2, .int (x2_a11 + (1 : Int32))), (0, .ref (ad 10)), (1, .int x1)]) hx hb dX3_drawAll_81 hl (k := 2) rfl rfl (by decide) rfl (fun ls hl => ?_)
        refine lv_goto (tgt := 11) hx hb dX3_drawAll_84 (by decide) ?_
        exact ih mk_nextSeed_o16 mk_bits_o17 (x2_a11 + (1 : Int32)) _ _ hf kk _ _ _ hP hD hS (lv_sub hl [1, 2, 0] rfl)
  obtain ⟨⟨mk_nextSeed_o1, mk_bits_o2⟩, h26, hf⟩ := oo_b hf
  try dsimp only at hf
  refine lp3  100 ((mk_seed).toInt64) mk_bits (0 : Int32) mk_nextSeed_o1 mk_bits_o2 h26 (fun H locs ls hP hD hS hl => ?_) _ _ _ hP hD hS (lv_sub hl [1, 2, 0] rfl)
  cases hf
  exact hret _ _ _ _ dX3_drawAll_87 hP hD hS
