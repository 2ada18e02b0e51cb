def f_X6_fault (mo_pageLength : Int32) (mo_page : Nat → Int32) (mo_newOne : Int32) (mo_newFrom : Nat → Int32) (mo_newTo : Nat → Int32) : Option (Int32 × Int32 × Int32 × Int32 × Int32 × (Nat → Int32) × (Nat → Int32)) :=
  Option.bind (f_X6_goAlong mo_pageLength mo_page mo_newOne mo_newFrom mo_newTo) fun (r2, mo_newNodes_3, mo_newPairs_4, mo_due_5, mo_newOne_6, mo_newFrom_7, mo_newTo_8) =>
  some (r2, mo_newNodes_3, mo_newPairs_4, mo_due_5, mo_newOne_6, mo_newFrom_7, mo_newTo_8)
abbrev rm_X6_fault : Room := { frames := 4, cells := 0, slots := 0, locals := 89 }
set_option maxHeartbeats 4000000 in
set_option maxRecDepth 100000 in
theorem c_X6_fault (l : Launch) (D : va_G) (cI cJ : ClassId) (ad : Nat → Nat) (sz : Nat) {mo_pageLength : Int32} {mo_page : Nat → Int32} {mo_nodes mo_links : Int32} {mo_fromOf mo_toOf : Nat → Int32} {mo_width mo_drawn mo_seed : Int32} {mo_bundleOf : Nat → Int32} {mo_netsRead mo_sent mo_passagesEver mo_astrayEver mo_loopsEver mo_newNodes mo_newPairs mo_due mo_newOne : Int32} {mo_newFrom mo_newTo : Nat → Int32} {mo_marks : Nat → Int64} {mo_drawing : Int64} {mo_leftOf : Nat → Int32} {mo_wayMany : Int32} {mo_wayAt : Nat → Int32} {mo_bitsNow : Int64} {mo_passages mo_astray mo_loops mo_steps mo_reached mo_others : Int32} {mo_h : Int64}  {o_res : Int32} {o_mo_newNodes : Int32} {o_mo_newPairs : Int32} {o_mo_due : Int32} {o_mo_newOne : Int32} {o_mo_newFrom : Nat → Int32} {o_mo_newTo : Nat → Int32} (hf : f_X6_fault mo_pageLength mo_page mo_newOne mo_newFrom mo_newTo = some (o_res, o_mo_newNodes, o_mo_newPairs, o_mo_due, o_mo_newOne, o_mo_newFrom, o_mo_newTo)) : CtI l yX6_fault wsX6_fault rm_X6_fault D cI cJ [.ref (ad 15)] (wdM cI cJ ad mo_pageLength mo_page mo_nodes mo_links mo_fromOf mo_toOf mo_width mo_drawn mo_seed mo_bundleOf mo_netsRead mo_sent mo_passagesEver mo_astrayEver mo_loopsEver mo_newNodes mo_newPairs mo_due mo_newOne mo_newFrom mo_newTo mo_marks mo_drawing mo_leftOf mo_wayMany mo_wayAt mo_bitsNow mo_passages mo_astray mo_loops mo_steps mo_reached mo_others mo_h) sz o_res (wdM cI cJ ad mo_pageLength mo_page mo_nodes mo_links mo_fromOf mo_toOf mo_width mo_drawn mo_seed mo_bundleOf mo_netsRead mo_sent mo_passagesEver mo_astrayEver mo_loopsEver o_mo_newNodes o_mo_newPairs o_mo_due o_mo_newOne o_mo_newFrom o_mo_newTo mo_marks mo_drawing mo_leftOf mo_wayMany mo_wayAt mo_bitsNow mo_passages mo_astray mo_loops mo_steps mo_reached mo_others mo_h) := by
  refine ctI_of (cc := cX6_fault) (maxL := 1) (by decide) rfl (Nat.le_of_ble_eq_true rfl) ?_
  intro p e s m below meth c Q A hx hb hml hown hts hK hN hA hret ls hl hP hD hS
  obtain ⟨args, hargs⟩ : ∃ a : Array Value, a = [.ref (ad 15)].toArray := ⟨_, rfl⟩
  rw [← hargs] at hts hret ⊢
  have hown : s.vm.findClass RX6 = some m.cls := hown
  have hl : lv_has ls 1 [(0, .ref (ad 15))] := hl
  unfold f_X6_fault at hf
  refine lv_aload_n hx hb dX6_fault_0 rfl (lv_at hl 0 rfl) ?_
  obtain ⟨⟨r2, mo_newNodes_3, mo_newPairs_4, mo_due_5, mo_newOne_6, mo_newFrom_7, mo_newTo_8⟩, h1, hf⟩ := oo_b hf
  try dsimp only at hf
  have F : Fr D A _ (wdM cI cJ ad mo_pageLength mo_page mo_nodes mo_links mo_fromOf mo_toOf mo_width mo_drawn mo_seed mo_bundleOf mo_netsRead mo_sent mo_passagesEver mo_astrayEver mo_loopsEver mo_newNodes mo_newPairs mo_due mo_newOne mo_newFrom mo_newTo mo_marks mo_drawing mo_leftOf mo_wayMany mo_wayAt mo_bitsNow mo_passages mo_astray mo_loops mo_steps mo_reached mo_others mo_h) (wdM cI cJ ad mo_pageLength mo_page mo_nodes mo_links mo_fromOf mo_toOf mo_width mo_drawn mo_seed mo_bundleOf mo_netsRead mo_sent mo_passagesEver mo_astrayEver mo_loopsEver mo_newNodes_3 mo_newPairs_4 mo_due_5 mo_newOne_6 mo_newFrom_7 mo_newTo_8 mo_marks mo_drawing mo_leftOf mo_wayMany mo_wayAt mo_bitsNow mo_passages mo_astray mo_loops mo_steps mo_reached mo_others mo_h) (wdM cI cJ ad mo_pageLength mo_page mo_nodes mo_links mo_fromOf mo_toOf mo_width mo_drawn mo_seed mo_bundleOf mo_netsRead mo_sent mo_passagesEver mo_astrayEver mo_loopsEver mo_newNodes_3 mo_newPairs_4 mo_due_5 mo_newOne_6 mo_newFrom_7 mo_newTo_8 mo_marks mo_drawing mo_leftOf mo_wayMany mo_wayAt mo_bitsNow mo_passages mo_astray mo_loops mo_steps mo_reached mo_others mo_h) := fr_self hP hD hS hA
  refine kI F hS (rV (q := (RX6, TX6, 34)) (As := []) (rest := []) ⟨hx, hb, hml, hown, hts⟩ hK hN F (c_X6_goAlong l D cI cJ ad _ (mo_pageLength := mo_pageLength) (mo_page := mo_page) (mo_nodes := mo_nodes) (mo_links := mo_links) (mo_fromOf := mo_fromOf) (mo_toOf := mo_toOf) (mo_width := mo_width) (mo_drawn := mo_drawn) (mo_seed := mo_seed) (mo_bundleOf := mo_bundleOf) (mo_netsRead := mo_netsRead) (mo_sent := mo_sent) (mo_passagesEver := mo_passagesEver) (mo_astrayEver := mo_astrayEver) (mo_loopsEver := mo_loopsEver) (mo_newNodes := mo_newNodes) (mo_newPairs := mo_newPairs) (mo_due := mo_due) (mo_newOne := mo_newOne) (mo_newFrom := mo_newFrom) (mo_newTo := mo_newTo) (mo_marks := mo_marks) (mo_drawing := mo_drawing) (mo_leftOf := mo_leftOf) (mo_wayMany := mo_wayMany) (mo_wayAt := mo_wayAt) (mo_bitsNow := mo_bitsNow) (mo_passages := mo_passages) (mo_astray := mo_astray) (mo_loops := mo_loops) (mo_steps := mo_steps) (mo_reached := mo_reached) (mo_others := mo_others) (mo_h := mo_h)  (o_res := r2) (o_mo_newNodes := mo_newNodes_3) (o_mo_newPairs := mo_newPairs_4) (o_mo_due := mo_due_5) (o_mo_newOne := mo_newOne_6) (o_mo_newFrom := mo_newFrom_7) (o_mo_newTo := mo_newTo_8) h1) (cwV 0 hts gX6_fault_X6_goAlong rfl rfl rfl (by decide +kernel) ⟨Nat.le_of_ble_eq_true rfl, Nat.le_of_ble_eq_true rfl⟩) (ci := 6) rfl rfl rfl hl.1 rfl (Nat.le_of_ble_eq_true rfl) dX6_fault_1 ⟨Nat.zero_le _, Nat.zero_le _⟩) (fun H locs hP hD hS => ?_)
  cases hf
  exact hret _ _ _ _ dX6_fault_4 hP hD hS
def f_X6_draw (mo_drawing : Int64) (x1 : Int32) : Option (Int32 × Int64) :=
  if (x1).toInt64 = 0 then none else
  some ((((((((1103515245 : Int64) * mo_drawing) + (12345 : Int64)) - (((1103515245 : Int64) * mo_drawing) + (12345 : Int64)) / (2147483648 : Int64) * (2147483648 : Int64)) / (65536 : Int64)) - (((((1103515245 : Int64) * mo_drawing) + (12345 : Int64)) - (((1103515245 : Int64) * mo_drawing) + (12345 : Int64)) / (2147483648 : Int64) * (2147483648 : Int64)) / (65536 : Int64)) / (x1).toInt64 * (x1).toInt64)).toInt32, ((((1103515245 : Int64) * mo_drawing) + (12345 : Int64)) - (((1103515245 : Int64) * mo_drawing) + (12345 : Int64)) / (2147483648 : Int64) * (2147483648 : Int64)))
abbrev rm_X6_draw : Room := { frames := 0, cells := 0, slots := 0, locals := 0 }
set_option maxHeartbeats 4000000 in
set_option maxRecDepth 100000 in
theorem c_X6_draw (l : Launch) (D : va_G) (cI cJ : ClassId) (ad : Nat → Nat) (sz : Nat) {mo_pageLength : Int32} {mo_page : Nat → Int32} {mo_nodes mo_links : Int32} {mo_fromOf mo_toOf : Nat → Int32} {mo_width mo_drawn mo_seed : Int32} {mo_bundleOf : Nat → Int32} {mo_netsRead mo_sent mo_passagesEver mo_astrayEver mo_loopsEver mo_newNodes mo_newPairs mo_due mo_newOne : Int32} {mo_newFrom mo_newTo : Nat → Int32} {mo_marks : Nat → Int64} {mo_drawing : Int64} {mo_leftOf : Nat → Int32} {mo_wayMany : Int32} {mo_wayAt : Nat → Int32} {mo_bitsNow : Int64} {mo_passages mo_astray mo_loops mo_steps mo_reached mo_others : Int32} {mo_h : Int64} (x1 : Int32) {o_res : Int32} {o_mo_drawing : Int64} (hf : f_X6_draw mo_drawing x1 = some (o_res, o_mo_drawing)) : CtI l yX6_draw wsX6_draw rm_X6_draw D cI cJ [.ref (ad 15), .int x1] (wdM cI cJ ad mo_pageLength mo_page mo_nodes mo_links mo_fromOf mo_toOf mo_width mo_drawn mo_seed mo_bundleOf mo_netsRead mo_sent mo_passagesEver mo_astrayEver mo_loopsEver mo_newNodes mo_newPairs mo_due mo_newOne mo_newFrom mo_newTo mo_marks mo_drawing mo_leftOf mo_wayMany mo_wayAt mo_bitsNow mo_passages mo_astray mo_loops mo_steps mo_reached mo_others mo_h) sz o_res (wdM cI cJ ad mo_pageLength mo_page mo_nodes mo_links mo_fromOf mo_toOf mo_width mo_drawn mo_seed mo_bundleOf mo_netsRead mo_sent mo_passagesEver mo_astrayEver mo_loopsEver mo_newNodes mo_newPairs mo_due mo_newOne mo_newFrom mo_newTo mo_marks o_mo_drawing mo_leftOf mo_wayMany mo_wayAt mo_bitsNow mo_passages mo_astray mo_loops mo_steps mo_reached mo_others mo_h) := by
  refine ctI_of (cc := cX6_draw) (maxL := 2) (by decide) rfl (Nat.le_of_ble_eq_true rfl) ?_
  intro p e s m below meth c Q A hx hb hml hown hts hK hN hA hret ls hl hP hD hS
  obtain ⟨args, hargs⟩ : ∃ a : Array Value, a = [.ref (ad 15), .int x1].toArray := ⟨_, rfl⟩
  rw [← hargs] at hts hret ⊢
  have hown : s.vm.findClass RX6 = some m.cls := hown
  have hl : lv_has ls 2 [(0, .ref (ad 15)), (1, .int x1)] := hl
  have hin_X6 : ∀ w ∈ wsX60, w ∈ wsX6_draw := fun _ h => List.mem_cons_of_mem _ (List.mem_append_right _ h)
  have fl_96 : (Cond.fieldLink RX6 96 "FoldedWaysModel" "drawing" "J").before args s = true := hat hts 2 rfl
  unfold f_X6_draw at hf
  refine lv_aload_n hx hb dX6_draw_0 rfl (lv_at hl 0 rfl) ?_
  refine lv_ldc2 (v := (1103515245 : Int64)) hx hb hown (hat hts 1 rfl) dX6_draw_1 ?_
  refine lv_aload_n hx hb dX6_draw_4 rfl (lv_at hl 0 rfl) ?_
  refine va_get (ci := 6) (v := .long mo_drawing) (C := RX6) (T := TX6) (N := 34) hx hb hts hin_X6 hown hK hP 0 rfl rfl 22 (by decide) fl_96 (fun _ h9 => h9) rfl dX6_draw_5 ?_
  refine lv_lmul hx hb dX6_draw_8 ?_
  refine lv_ldc2 (v := (12345 : Int64)) hx hb hown (hat hts 3 rfl) dX6_draw_9 ?_
  refine lv_ladd hx hb dX6_draw_12 ?_
  refine lv_ldc2 (v := (2147483648 : Int64)) hx hb hown (hat hts 4 rfl) dX6_draw_13 ?_
  refine lv_lrem hx hb dX6_draw_16 (by decide) ?_
  refine va_put (ci := 6) (v := .long ((((1103515245 : Int64) * mo_drawing) + (12345 : Int64)) - (((1103515245 : Int64) * mo_drawing) + (12345 : Int64)) / (2147483648 : Int64) * (2147483648 : Int64))) (ty := .long) (C := RX6) (T := TX6) (N := 34) hx hb hts hin_X6 tyX6 tyX6_ok nmX6 hown hK hP hD hS 0 rfl rfl 22 (by decide) fl_96 (fun _ h9 => h9) rfl (by decide +kernel) rfl rfl (Nat.le_of_ble_eq_true rfl) dX6_draw_17 (fun H locs hP hD hS => ?_)
  have hP : va_P D vwCl (wdM cI cJ ad mo_pageLength mo_page mo_nodes mo_links mo_fromOf mo_toOf mo_width mo_drawn mo_seed mo_bundleOf mo_netsRead mo_sent mo_passagesEver mo_astrayEver mo_loopsEver mo_newNodes mo_newPairs mo_due mo_newOne mo_newFrom mo_newTo mo_marks ((((1103515245 : Int64) * mo_drawing) + (12345 : Int64)) - (((1103515245 : Int64) * mo_drawing) + (12345 : Int64)) / (2147483648 : Int64) * (2147483648 : Int64)) mo_leftOf mo_wayMany mo_wayAt mo_bitsNow mo_passages mo_astray mo_loops mo_steps mo_reached mo_others mo_h) H := hP
  have hD : va_D A (wdM cI cJ ad mo_pageLength mo_page mo_nodes mo_links mo_fromOf mo_toOf mo_width mo_drawn mo_seed mo_bundleOf mo_netsRead mo_sent mo_passagesEver mo_astrayEver mo_loopsEver mo_newNodes mo_newPairs mo_due mo_newOne mo_newFrom mo_newTo mo_marks ((((1103515245 : Int64) * mo_drawing) + (12345 : Int64)) - (((1103515245 : Int64) * mo_drawing) + (12345 : Int64)) / (2147483648 : Int64) * (2147483648 : Int64)) mo_leftOf mo_wayMany mo_wayAt mo_bitsNow mo_passages mo_astray mo_loops mo_steps mo_reached mo_others mo_h) := hD
  refine lv_aload_n hx hb dX6_draw_20 rfl (lv_at hl 0 rfl) ?_
  refine va_get (ci := 6) (v := .long ((((1103515245 : Int64) * mo_drawing) + (12345 : Int64)) - (((1103515245 : Int64) * mo_drawing) + (12345 : Int64)) / (2147483648 : Int64) * (2147483648 : Int64))) (C := RX6) (T := TX6) (N := 34) hx hb hts hin_X6 hown hK hP 0 rfl rfl 22 (by decide) fl_96 (fun _ h9 => h9) rfl dX6_draw_21 ?_
  refine lv_ldc2 (v := (65536 : Int64)) hx hb hown (hat hts 5 rfl) dX6_draw_24 ?_
  refine lv_ldiv hx hb dX6_draw_27 (by decide) ?_
  refine lv_iload_n hx hb dX6_draw_28 rfl (lv_at hl 1 rfl) ?_
  refine lv_i2l (v := (x1).toInt64) hx hb dX6_draw_29 rfl ?_
  obtain ⟨g1, hf⟩ := oo_g hf
  refine lv_lrem hx hb dX6_draw_30 g1 ?_
  refine lv_l2i (v := (((((((1103515245 : Int64) * mo_drawing) + (12345 : Int64)) - (((1103515245 : Int64) * mo_drawing) + (12345 : Int64)) / (2147483648 : Int64) * (2147483648 : Int64)) / (65536 : Int64)) - (((((1103515245 : Int64) * mo_drawing) + (12345 : Int64)) - (((1103515245 : Int64) * mo_drawing) + (12345 : Int64)) / (2147483648 : Int64) * (2147483648 : Int64)) / (65536 : Int64)) / (x1).toInt64 * (x1).toInt64)).toInt32) hx hb dX6_draw_31 rfl ?_
  cases hf
  exact hret _ _ _ _ dX6_draw_32 hP hD hS
def f_X6_layMarks_L29 (mo_links : Int32) (mo_width : Int32) (mo_drawn : Int32) (x2_a18 : Int32) : Nat → Int64 → Int64 → Int32 → Option (Int64 × Int64)
  | 0, _, _, _ => none
  | n + 1, mo_drawing_a29, x3_a29, x5_a29 =>
      if mo_drawn ≤ x5_a29 then
        some (mo_drawing_a29, x3_a29)
      else
        if x2_a18 < mo_links then
          Option.bind (f_X6_draw mo_drawing_a29 mo_width) fun (r15, mo_drawing_16) =>
          f_X6_layMarks_L29 mo_links mo_width mo_drawn x2_a18 n mo_drawing_16 (x3_a29 ||| ((1 : Int64) <<< ((r15).toInt64 &&& 63))) (x5_a29 + (1 : Int32))
        else
          if x2_a18 < (16 : Int32) then
            some (mo_drawing_a29, x3_a29)
          else
            Option.bind (f_X6_draw mo_drawing_a29 mo_width) fun (r20, mo_drawing_21) =>
            f_X6_layMarks_L29 mo_links mo_width mo_drawn x2_a18 n mo_drawing_21 (x3_a29 ||| ((1 : Int64) <<< ((r20).toInt64 &&& 63))) (x5_a29 + (1 : Int32))
theorem f_X6_layMarks_L29_s (mo_links : Int32) (mo_width : Int32) (mo_drawn : Int32) (x2_a18 : Int32) (n : Nat) (mo_drawing_a29 : Int64) (x3_a29 : Int64) (x5_a29 : Int32) : f_X6_layMarks_L29 mo_links mo_width mo_drawn x2_a18 (n + 1) mo_drawing_a29 x3_a29 x5_a29 =
      (if mo_drawn ≤ x5_a29 then
        some (mo_drawing_a29, x3_a29)
      else
        if x2_a18 < mo_links then
          Option.bind (f_X6_draw mo_drawing_a29 mo_width) fun (r15, mo_drawing_16) =>
          f_X6_layMarks_L29 mo_links mo_width mo_drawn x2_a18 n mo_drawing_16 (x3_a29 ||| ((1 : Int64) <<< ((r15).toInt64 &&& 63))) (x5_a29 + (1 : Int32))
        else
          if x2_a18 < (16 : Int32) then
            some (mo_drawing_a29, x3_a29)
          else
            Option.bind (f_X6_draw mo_drawing_a29 mo_width) fun (r20, mo_drawing_21) =>
            f_X6_layMarks_L29 mo_links mo_width mo_drawn x2_a18 n mo_drawing_21 (x3_a29 ||| ((1 : Int64) <<< ((r20).toInt64 &&& 63))) (x5_a29 + (1 : Int32))) := rfl
def f_X6_layMarks_L18 (mo_links : Int32) (mo_width : Int32) (mo_drawn : Int32) (x1_a11 : Int32) : Nat → (Nat → Int64) → Int64 → Int32 → Option ((Nat → Int64) × Int64)
  | 0, _, _, _ => none
  | n + 1, mo_marks_a18, mo_drawing_a18, x2_a18 =>
      if (20 : Int32) ≤ x2_a18 then
        some (mo_marks_a18, mo_drawing_a18)
      else
        Option.bind (f_X6_layMarks_L29 mo_links mo_width mo_drawn x2_a18 100 mo_drawing_a18 (0 : Int64) (0 : Int32)) fun (mo_drawing_o9, x3_o10) =>
        if (((20 : Int32) * x1_a11) + x2_a18) < 0 ∨ 60 ≤ ((((20 : Int32) * x1_a11) + x2_a18)).toNatClampNeg then none else
        f_X6_layMarks_L18 mo_links mo_width mo_drawn x1_a11 n (vp_updL mo_marks_a18 ((((20 : Int32) * x1_a11) + x2_a18)).toNatClampNeg x3_o10) mo_drawing_o9 (x2_a18 + (1 : Int32))
theorem f_X6_layMarks_L18_s (mo_links : Int32) (mo_width : Int32) (mo_drawn : Int32) (x1_a11 : Int32) (n : Nat) (mo_marks_a18 : Nat → Int64) (mo_drawing_a18 : Int64) (x2_a18 : Int32) : f_X6_layMarks_L18 mo_links mo_width mo_drawn x1_a11 (n + 1) mo_marks_a18 mo_drawing_a18 x2_a18 =
      (if (20 : Int32) ≤ x2_a18 then
        some (mo_marks_a18, mo_drawing_a18)
      else
        Option.bind (f_X6_layMarks_L29 mo_links mo_width mo_drawn x2_a18 100 mo_drawing_a18 (0 : Int64) (0 : Int32)) fun (mo_drawing_o9, x3_o10) =>
        if (((20 : Int32) * x1_a11) + x2_a18) < 0 ∨ 60 ≤ ((((20 : Int32) * x1_a11) + x2_a18)).toNatClampNeg then none else
        f_X6_layMarks_L18 mo_links mo_width mo_drawn x1_a11 n (vp_updL mo_marks_a18 ((((20 : Int32) * x1_a11) + x2_a18)).toNatClampNeg x3_o10) mo_drawing_o9 (x2_a18 + (1 : Int32))) := rfl
def f_X6_layMarks_L11 (mo_links : Int32) (mo_width : Int32) (mo_drawn : Int32) : Nat → (Nat → Int64) → Int64 → Int32 → Option ((Nat → Int64) × Int64)
  | 0, _, _, _ => none
  | n + 1, mo_marks_a11, mo_drawing_a11, x1_a11 =>
      if (3 : Int32) ≤ x1_a11 then
        some (mo_marks_a11, mo_drawing_a11)
      else
        Option.bind (f_X6_layMarks_L18 mo_links mo_width mo_drawn x1_a11 100 mo_marks_a11 mo_drawing_a11 (0 : Int32)) fun (mo_marks_o5, mo_drawing_o6) =>
        f_X6_layMarks_L11 mo_links mo_width mo_drawn n mo_marks_o5 mo_drawing_o6 (x1_a11 + (1 : Int32))
theorem f_X6_layMarks_L11_s (mo_links : Int32) (mo_width : Int32) (mo_drawn : Int32) (n : Nat) (mo_marks_a11 : Nat → Int64) (mo_drawing_a11 : Int64) (x1_a11 : Int32) : f_X6_layMarks_L11 mo_links mo_width mo_drawn (n + 1) mo_marks_a11 mo_drawing_a11 x1_a11 =
      (if (3 : Int32) ≤ x1_a11 then
        some (mo_marks_a11, mo_drawing_a11)
      else
        Option.bind (f_X6_layMarks_L18 mo_links mo_width mo_drawn x1_a11 100 mo_marks_a11 mo_drawing_a11 (0 : Int32)) fun (mo_marks_o5, mo_drawing_o6) =>
        f_X6_layMarks_L11 mo_links mo_width mo_drawn n mo_marks_o5 mo_drawing_o6 (x1_a11 + (1 : Int32))) := rfl
def f_X6_layMarks (mo_links : Int32) (mo_width : Int32) (mo_drawn : Int32) (mo_seed : Int32) (mo_marks : Nat → Int64) : Option ((Nat → Int64) × Int64) :=
  Option.bind (f_X6_layMarks_L11 mo_links mo_width mo_drawn 100 mo_marks ((mo_seed).toInt64) (0 : Int32)) fun (mo_marks_o1, mo_drawing_o2) =>
  some (mo_marks_o1, mo_drawing_o2)
abbrev rm_X6_layMarks : Room := { frames := 1, cells := 0, slots := 0, locals := 21 }
set_option maxHeartbeats 4000000 in
set_option maxRecDepth 100000 in
theorem c_X6_layMarks (l : Launch) (D : va_G) (cI cJ : ClassId) (ad : Nat → Nat) (sz : Nat) {mo_pageLength : Int32} {mo_page : Nat → Int32} {mo_nodes mo_links : Int32} {mo_fromOf mo_toOf : Nat → Int32} {mo_width mo_drawn mo_seed : Int32} {mo_bundleOf : Nat → Int32} {mo_netsRead mo_sent mo_passagesEver mo_astrayEver mo_loopsEver mo_newNodes mo_newPairs mo_due mo_newOne : Int32} {mo_newFrom mo_newTo : Nat → Int32} {mo_marks : Nat → Int64} {mo_drawing : Int64} {mo_leftOf : Nat → Int32} {mo_wayMany : Int32} {mo_wayAt : Nat → Int32} {mo_bitsNow : Int64} {mo_passages mo_astray mo_loops mo_steps mo_reached mo_others : Int32} {mo_h : Int64}  {o_mo_marks : Nat → Int64} {o_mo_drawing : Int64} (hf : f_X6_layMarks mo_links mo_width mo_drawn mo_seed mo_marks = some (o_mo_marks, o_mo_drawing)) : CtV l yX6_layMarks wsX6_layMarks rm_X6_layMarks D cI cJ [.ref (ad 15)] (wdM cI cJ ad mo_pageLength mo_page mo_nodes mo_links mo_fromOf mo_toOf mo_width mo_drawn mo_seed mo_bundleOf mo_netsRead mo_sent mo_passagesEver mo_astrayEver mo_loopsEver mo_newNodes mo_newPairs mo_due mo_newOne mo_newFrom mo_newTo mo_marks mo_drawing mo_leftOf mo_wayMany mo_wayAt mo_bitsNow mo_passages mo_astray mo_loops mo_steps mo_reached mo_others mo_h) sz (wdM cI cJ ad mo_pageLength mo_page mo_nodes mo_links mo_fromOf mo_toOf mo_width mo_drawn mo_seed mo_bundleOf mo_netsRead mo_sent mo_passagesEver mo_astrayEver mo_loopsEver mo_newNodes mo_newPairs mo_due mo_newOne mo_newFrom mo_newTo o_mo_marks o_mo_drawing mo_leftOf mo_wayMany mo_wayAt mo_bitsNow mo_passages mo_astray mo_loops mo_steps mo_reached mo_others mo_h) := by
  refine ctV_of (cc := cX6_layMarks) (maxL := 6) (by decide) rfl (Nat.le_of_ble_eq_true rfl) ?_
  intro p e s m below meth c Q A hx hb hml hown hts hK hN hA hret ls hl hP hD hS
  obtain ⟨args, hargs⟩ : ∃ a : Array Value, a = [.ref (ad 15)].toArray := ⟨_, rfl⟩
  rw [← hargs] at hts hret ⊢
  have hown : s.vm.findClass RX6 = some m.cls := hown
  have hl : lv_has ls 6 [(0, .ref (ad 15))] := hl
  have hin_X6 : ∀ w ∈ wsX60, w ∈ wsX6_layMarks := fun _ h => List.mem_cons_of_mem _ (List.mem_append_right _ h)
  have fl_19 : (Cond.fieldLink RX6 19 "FoldedWaysModel" "width" "I").before args s = true := hat hts 5 rfl
  have fl_23 : (Cond.fieldLink RX6 23 "FoldedWaysModel" "drawn" "I").before args s = true := hat hts 3 rfl
  have fl_26 : (Cond.fieldLink RX6 26 "FoldedWaysModel" "seed" "I").before args s = true := hat hts 1 rfl
  have fl_38 : (Cond.fieldLink RX6 38 "FoldedWaysModel" "marks" "[J").before args s = true := hat hts 6 rfl
  have fl_85 : (Cond.fieldLink RX6 85 "FoldedWaysModel" "links" "I").before args s = true := hat hts 4 rfl
  have fl_96 : (Cond.fieldLink RX6 96 "FoldedWaysModel" "drawing" "J").before args s = true := hat hts 2 rfl
  unfold f_X6_layMarks at hf
  refine lv_aload_n hx hb dX6_layMarks_0 rfl (lv_at hl 0 rfl) ?_
  refine lv_aload_n hx hb dX6_layMarks_1 rfl (lv_at hl 0 rfl) ?_
  refine va_get (ci := 6) (v := .int mo_seed) (C := RX6) (T := TX6) (N := 34) hx hb hts hin_X6 hown hK hP 0 rfl rfl 8 (by decide) fl_26 (fun _ h9 => h9) rfl dX6_layMarks_2 ?_
  refine lv_i2l (v := (mo_seed).toInt64) hx hb dX6_layMarks_5 rfl ?_
  refine va_put (ci := 6) (v := .long ((mo_seed).toInt64)) (ty := .long) (C := RX6) (T := TX6) (N := 34) hx hb hts hin_X6 tyX6 tyX6_ok nmX6 hown hK hP hD hS 0 rfl rfl 22 (by decide) fl_96 (fun _ h9 => h9) rfl (by decide +kernel) rfl rfl (Nat.le_of_ble_eq_true rfl) dX6_layMarks_6 (fun H locs hP hD hS => ?_)
  have hP : va_P D vwCl (wdM cI cJ ad mo_pageLength mo_page mo_nodes mo_links mo_fromOf mo_toOf mo_width mo_drawn mo_seed mo_bundleOf mo_netsRead mo_sent mo_passagesEver mo_astrayEver mo_loopsEver mo_newNodes mo_newPairs mo_due mo_newOne mo_newFrom mo_newTo mo_marks ((mo_seed).toInt64) mo_leftOf mo_wayMany mo_wayAt mo_bitsNow mo_passages mo_astray mo_loops mo_steps mo_reached mo_others mo_h) H := hP
  have hD : va_D A (wdM cI cJ ad mo_pageLength mo_page mo_nodes mo_links mo_fromOf mo_toOf mo_width mo_drawn mo_seed mo_bundleOf mo_netsRead mo_sent mo_passagesEver mo_astrayEver mo_loopsEver mo_newNodes mo_newPairs mo_due mo_newOne mo_newFrom mo_newTo mo_marks ((mo_seed).toInt64) mo_leftOf mo_wayMany mo_wayAt mo_bitsNow mo_passages mo_astray mo_loops mo_steps mo_reached mo_others mo_h) := hD
  refine lv_iconst (v := (0 : Int32)) hx hb dX6_layMarks_9 (by decide) ?_
  refine lv_istore_n (lv' := [(1, .int (0 : Int32)), (0, .ref (ad 15))]) hx hb dX6_layMarks_10 rfl hl (by decide) rfl (fun ls hl => ?_)
  have lp3 : ∀ (n : Nat) (mo_marks_a11 : Nat → Int64) (mo_drawing_a11 : Int64) (x1_a11 : Int32) (mo_marks_o1 : Nat → Int64) (mo_drawing_o2 : Int64), f_X6_layMarks_L11 mo_links mo_width mo_drawn n mo_marks_a11 mo_drawing_a11 x1_a11 = some (mo_marks_o1, mo_drawing_o2) → (∀ (H : Heap) (locs : List Loc) (ls : Array Slot), va_P D vwCl (wdM cI cJ ad mo_pageLength mo_page mo_nodes mo_links mo_fromOf mo_toOf mo_width mo_drawn mo_seed mo_bundleOf mo_netsRead mo_sent mo_passagesEver mo_astrayEver mo_loopsEver mo_newNodes mo_newPairs mo_due mo_newOne mo_newFrom mo_newTo mo_marks_o1 mo_drawing_o2 mo_leftOf mo_wayMany mo_wayAt mo_bitsNow mo_passages mo_astray mo_loops mo_steps mo_reached mo_others mo_h) H → va_D A (wdM cI cJ ad mo_pageLength mo_page mo_nodes mo_links mo_fromOf mo_toOf mo_width mo_drawn mo_seed mo_bundleOf mo_netsRead mo_sent mo_passagesEver mo_astrayEver mo_loopsEver mo_newNodes mo_newPairs mo_due mo_newOne mo_newFrom mo_newTo mo_marks_o1 mo_drawing_o2 mo_leftOf mo_wayMany mo_wayAt mo_bitsNow mo_passages mo_astray mo_loops mo_steps mo_reached mo_others mo_h) → va_S A s.heap H locs → lv_has ls 6 [] → W p l e rm_X6_layMarks s m args below meth c H locs 0 0 Q (F0 m 95 ls [])) → ∀ (H : Heap) (locs : List Loc) (ls : Array Slot), va_P D vwCl (wdM cI cJ ad mo_pageLength mo_page mo_nodes mo_links mo_fromOf mo_toOf mo_width mo_drawn mo_seed mo_bundleOf mo_netsRead mo_sent mo_passagesEver mo_astrayEver mo_loopsEver mo_newNodes mo_newPairs mo_due mo_newOne mo_newFrom mo_newTo mo_marks_a11 mo_drawing_a11 mo_leftOf mo_wayMany mo_wayAt mo_bitsNow mo_passages mo_astray mo_loops mo_steps mo_reached mo_others mo_h) H → va_D A (wdM cI cJ ad mo_pageLength mo_page mo_nodes mo_links mo_fromOf mo_toOf mo_width mo_drawn mo_seed mo_bundleOf mo_netsRead mo_sent mo_passagesEver mo_astrayEver mo_loopsEver mo_newNodes mo_newPairs mo_due mo_newOne mo_newFrom mo_newTo mo_marks_a11 mo_drawing_a11 mo_leftOf mo_wayMany mo_wayAt mo_bitsNow mo_passages mo_astray mo_loops mo_steps mo_reached mo_others mo_h) → va_S A s.heap H locs → lv_has ls 6 [(0, .ref (ad 15)), (1, .int x1_a11)] → W p l e rm_X6_layMarks s m args below meth c H locs 0 0 Q (F0 m 11 ls []) := by
    intro n
    induction n with
    | zero =>
      intro mo_marks_a11 mo_drawing_a11 x1_a11 mo_marks_o1 mo_drawing_o2 h0
      exact oo_n h0
    | succ n ih =>
      intro mo_marks_a11 mo_drawing_a11 x1_a11 mo_marks_o1 mo_drawing_o2 hf kk H locs ls hP hD hS hl
      rw [f_X6_layMarks_L11_s] at hf
      refine lv_iload_n hx hb dX6_layMarks_11 rfl (lv_at hl 1 rfl) ?_
      refine lv_iconst (v := (3 : Int32)) hx hb dX6_layMarks_12 (by decide) ?_
      refine lv_icmp_ge (tgt := 95) hx hb dX6_layMarks_13 (by decide) (fun c4 => ?_) (fun c4 => ?_)
      · have hf := oo_t hf c4
        cases hf
        exact kk _ _ _ hP hD hS (lv_sub hl [] rfl)
      · have hf := oo_f hf c4
        refine lv_iconst (v := (0 : Int32)) hx hb dX6_layMarks_16 (by decide) ?_
        refine lv_istore_n (lv' := [(2, .int (0 : Int32)), (0, .ref (ad 15)), (1, .int x1_a11)]) hx hb dX6_layMarks_17 rfl hl (by decide) rfl (fun ls hl => ?_)
        have lp7 : ∀ (n : Nat) (mo_marks_a18 : Nat → Int64) (mo_drawing_a18 : Int64) (x2_a18 : Int32) (mo_marks_o5 : Nat → Int64) (mo_drawing_o6 : Int64), f_X6_layMarks_L18 mo_links mo_width mo_drawn x1_a11 n mo_marks_a18 mo_drawing_a18 x2_a18 = some (mo_marks_o5, mo_drawing_o6) → (∀ (H : Heap) (locs : List Loc) (ls : Array Slot), va_P D vwCl (wdM cI cJ ad mo_pageLength mo_page mo_nodes mo_links mo_fromOf mo_toOf mo_width mo_drawn mo_seed mo_bundleOf mo_netsRead mo_sent mo_passagesEver mo_astrayEver mo_loopsEver mo_newNodes mo_newPairs mo_due mo_newOne mo_newFrom mo_newTo mo_marks_o5 mo_drawing_o6 mo_leftOf mo_wayMany mo_wayAt mo_bitsNow mo_passages mo_astray mo_loops mo_steps mo_reached mo_others mo_h) H → va_D A (wdM cI cJ ad mo_pageLength mo_page mo_nodes mo_links mo_fromOf mo_toOf mo_width mo_drawn mo_seed mo_bundleOf mo_netsRead mo_sent mo_passagesEver mo_astrayEver mo_loopsEver mo_newNodes mo_newPairs mo_due mo_newOne mo_newFrom mo_newTo mo_marks_o5 mo_drawing_o6 mo_leftOf mo_wayMany mo_wayAt mo_bitsNow mo_passages mo_astray mo_loops mo_steps mo_reached mo_others mo_h) → va_S A s.heap H locs → lv_has ls 6 [(0, .ref (ad 15)), (1, .int x1_a11)] → W p l e rm_X6_layMarks s m args below meth c H locs 0 0 Q (F0 m 89 ls [])) → ∀ (H : Heap) (locs : List Loc) (ls : Array Slot), va_P D vwCl (wdM cI cJ ad mo_pageLength mo_page mo_nodes mo_links mo_fromOf mo_toOf mo_width mo_drawn mo_seed mo_bundleOf mo_netsRead mo_sent mo_passagesEver mo_astrayEver mo_loopsEver mo_newNodes mo_newPairs mo_due mo_newOne mo_newFrom mo_newTo mo_marks_a18 mo_drawing_a18 mo_leftOf mo_wayMany mo_wayAt mo_bitsNow mo_passages mo_astray mo_loops mo_steps mo_reached mo_others mo_h) H → va_D A (wdM cI cJ ad mo_pageLength mo_page mo_nodes mo_links mo_fromOf mo_toOf mo_width mo_drawn mo_seed mo_bundleOf mo_netsRead mo_sent mo_passagesEver mo_astrayEver mo_loopsEver mo_newNodes mo_newPairs mo_due mo_newOne mo_newFrom mo_newTo mo_marks_a18 mo_drawing_a18 mo_leftOf mo_wayMany mo_wayAt mo_bitsNow mo_passages mo_astray mo_loops mo_steps mo_reached mo_others mo_h) → va_S A s.heap H locs → lv_has ls 6 [(0, .ref (ad 15)), (1, .int x1_a11), (2, .int x2_a18)] → W p l e rm_X6_layMarks s m args below meth c H locs 0 0 Q (F0 m 18 ls []) := by
          intro n
          induction n with
          | zero =>
            intro mo_marks_a18 mo_drawing_a18 x2_a18 mo_marks_o5 mo_drawing_o6 h0
            exact oo_n h0
          | succ n ih =>
            intro mo_marks_a18 mo_drawing_a18 x2_a18 mo_marks_o5 mo_drawing_o6 hf kk H locs ls hP hD hS hl
            rw [f_X6_layMarks_L18_s] at hf
            refine lv_iload_n hx hb dX6_layMarks_18 rfl (lv_at hl 2 rfl) ?_
            refine lv_bipush (v := (20 : Int32)) hx hb dX6_layMarks_19 (by decide) ?_
            refine lv_icmp_ge (tgt := 89) hx hb dX6_layMarks_21 (by decide) (fun c8 => ?_) (fun c8 => ?_)
            · have hf := oo_t hf c8
              cases hf
              exact kk _ _ _ hP hD hS (lv_sub hl [0, 1] rfl)
            · have hf := oo_f hf c8
              refine lv_lconst (v := (0 : Int64)) hx hb dX6_layMarks_24 (by decide) ?_
              refine lv_lstore_n (lv' := [(3, .long (0 : Int64)), (0, .ref (ad 15)), (1, .int x1_a11), (2, .int x2_a18)]) hx hb dX6_layMarks_25 rfl hl (by decide) rfl (fun ls hl => ?_)
              refine lv_iconst (v := (0 : Int32)) hx hb dX6_layMarks_26 (by decide) ?_
              refine lv_istore (lv' := [(5, .int (0 : Int32)), (3, .long (0 : Int64)), (0, .ref (ad 15)), (1, .int x1_a11), (2, .int x2_a18)]) hx hb dX6_layMarks_27 hl (by decide) rfl (fun ls hl => ?_)
              have lp11 : ∀ (n : Nat) (mo_drawing_a29 : Int64) (x3_a29 : Int64) (x5_a29 : Int32) (mo_drawing_o9 : Int64) (x3_o10 : Int64), f_X6_layMarks_L29 mo_links mo_width mo_drawn x2_a18 n mo_drawing_a29 x3_a29 x5_a29 = some (mo_drawing_o9, x3_o10) → (∀ (H : Heap) (locs : List Loc) (ls : Array Slot), va_P D vwCl (wdM cI cJ ad mo_pageLength mo_page mo_nodes mo_links mo_fromOf mo_toOf mo_width mo_drawn mo_seed mo_bundleOf mo_netsRead mo_sent mo_passagesEver mo_astrayEver mo_loopsEver mo_newNodes mo_newPairs mo_due mo_newOne mo_newFrom mo_newTo mo_marks_a18 mo_drawing_o9 mo_leftOf mo_wayMany mo_wayAt mo_bitsNow mo_passages mo_astray mo_loops mo_steps mo_reached mo_others mo_h) H → va_D A (wdM cI cJ ad mo_pageLength mo_page mo_nodes mo_links mo_fromOf mo_toOf mo_width mo_drawn mo_seed mo_bundleOf mo_netsRead mo_sent mo_passagesEver mo_astrayEver mo_loopsEver mo_newNodes mo_newPairs mo_due mo_newOne mo_newFrom mo_newTo mo_marks_a18 mo_drawing_o9 mo_leftOf mo_wayMany mo_wayAt mo_bitsNow mo_passages mo_astray mo_loops mo_steps mo_reached mo_others mo_h) → va_S A s.heap H locs → lv_has ls 6 [(0, .ref (ad 15)), (1, .int x1_a11), (2, .int x2_a18), (3, .long x3_o10)] → W p l e rm_X6_layMarks s m args below meth c H locs 0 0 Q (F0 m 71 ls [])) → ∀ (H : Heap) (locs : List Loc) (ls : Array Slot), va_P D vwCl (wdM cI cJ ad mo_pageLength mo_page mo_nodes mo_links mo_fromOf mo_toOf mo_width mo_drawn mo_seed mo_bundleOf mo_netsRead mo_sent mo_passagesEver mo_astrayEver mo_loopsEver mo_newNodes mo_newPairs mo_due mo_newOne mo_newFrom mo_newTo mo_marks_a18 mo_drawing_a29 mo_leftOf mo_wayMany mo_wayAt mo_bitsNow mo_passages mo_astray mo_loops mo_steps mo_reached mo_others mo_h) H → va_D A (wdM cI cJ ad mo_pageLength mo_page mo_nodes mo_links mo_fromOf mo_toOf mo_width mo_drawn mo_seed mo_bundleOf mo_netsRead mo_sent mo_passagesEver mo_astrayEver mo_loopsEver mo_newNodes mo_newPairs mo_due mo_newOne mo_newFrom mo_newTo mo_marks_a18 mo_drawing_a29 mo_leftOf mo_wayMany mo_wayAt mo_bitsNow mo_passages mo_astray mo_loops mo_steps mo_reached mo_others mo_h) → va_S A s.heap H locs → lv_has ls 6 [(0, .ref (ad 15)), (1, .int x1_a11), (2, .int x2_a18), (3, .long x3_a29), (5, .int x5_a29)] → W p l e rm_X6_layMarks s m args below meth c H locs 0 0 Q (F0 m 29 ls []) := by
                intro n
                induction n with
                | zero =>
                  intro mo_drawing_a29 x3_a29 x5_a29 mo_drawing_o9 x3_o10 h0
                  exact oo_n h0
                | succ n ih =>
                  intro mo_drawing_a29 x3_a29 x5_a29 mo_drawing_o9 x3_o10 hf kk H locs ls hP hD hS hl
                  rw [f_X6_layMarks_L29_s] at hf
                  refine lv_iload hx hb dX6_layMarks_29 (lv_at hl 4 rfl) ?_
                  refine lv_aload_n hx hb dX6_layMarks_31 rfl (lv_at hl 0 rfl) ?_
                  refine va_get (ci := 6) (v := .int mo_drawn) (C := RX6) (T := TX6) (N := 34) hx hb hts hin_X6 hown hK hP 0 rfl rfl 7 (by decide) fl_23 (fun _ h9 => h9) rfl dX6_layMarks_32 ?_
                  refine lv_icmp_ge (tgt := 71) hx hb dX6_layMarks_35 (by decide) (fun c12 => ?_) (fun c12 => ?_)
                  · have hf := oo_t hf c12
                    cases hf
                    exact kk _ _ _ hP hD hS (lv_sub hl [0, 1, 2, 3] rfl)
                  · have hf := oo_f hf c12
                    refine lv_iload_n hx hb dX6_layMarks_38 rfl (lv_at hl 2 rfl) ?_
                    refine lv_aload_n hx hb dX6_layMarks_39 rfl (lv_at hl 0 rfl) ?_
                    refine va_get (ci := 6) (v := .int mo_links) (C := RX6) (T := TX6) (N := 34) hx hb hts hin_X6 hown hK hP 0 rfl rfl 3 (by decide) fl_85 (fun _ h9 => h9) rfl dX6_layMarks_40 ?_
                    refine lv_icmp_lt (tgt := 52) hx hb dX6_layMarks_43 (by decide) (fun c13 => ?_) (fun c13 => ?_)
                    · have hf := oo_t hf c13
                      refine lv_lload_n hx hb dX6_layMarks_52 rfl (lv_at hl 3 rfl) ?_
                      refine lv_lconst (v := (1 : Int64)) hx hb dX6_layMarks_53 (by decide) ?_
                      refine lv_aload_n hx hb dX6_layMarks_54 rfl (lv_at hl 0 rfl) ?_
                      refine lv_aload_n hx hb dX6_layMarks_55 rfl (lv_at hl 0 rfl) ?_
                      refine va_get (ci := 6) (v := .int mo_width) (C := RX6) (T := TX6) (N := 34) hx hb hts hin_X6 hown hK hP 0 rfl rfl 6 (by decide) fl_19 (fun _ h9 => h9) rfl dX6_layMarks_56 ?_
                      obtain ⟨⟨r15, mo_drawing_16⟩, h14, hf⟩ := oo_b hf
                      try dsimp only at hf
                      have F : Fr D A _ (wdM cI cJ ad mo_pageLength mo_page mo_nodes mo_links mo_fromOf mo_toOf mo_width mo_drawn mo_seed mo_bundleOf mo_netsRead mo_sent mo_passagesEver mo_astrayEver mo_loopsEver mo_newNodes mo_newPairs mo_due mo_newOne mo_newFrom mo_newTo mo_marks_a18 mo_drawing_a29 mo_leftOf mo_wayMany mo_wayAt mo_bitsNow mo_passages mo_astray mo_loops mo_steps mo_reached mo_others mo_h) (wdM cI cJ ad mo_pageLength mo_page mo_nodes mo_links mo_fromOf mo_toOf mo_width mo_drawn mo_seed mo_bundleOf mo_netsRead mo_sent mo_passagesEver mo_astrayEver mo_loopsEver mo_newNodes mo_newPairs mo_due mo_newOne mo_newFrom mo_newTo mo_marks_a18 mo_drawing_16 mo_leftOf mo_wayMany mo_wayAt mo_bitsNow mo_passages mo_astray mo_loops mo_steps mo_reached mo_others mo_h) (wdM cI cJ ad mo_pageLength mo_page mo_nodes mo_links mo_fromOf mo_toOf mo_width mo_drawn mo_seed mo_bundleOf mo_netsRead mo_sent mo_passagesEver mo_astrayEver mo_loopsEver mo_newNodes mo_newPairs mo_due mo_newOne mo_newFrom mo_newTo mo_marks_a18 mo_drawing_16 mo_leftOf mo_wayMany mo_wayAt mo_bitsNow mo_passages mo_astray mo_loops mo_steps mo_reached mo_others mo_h) := fr_self hP hD hS hA
                      refine kI F hS (rV (q := (RX6, TX6, 34)) (As := [.int mo_width]) (rest := [.long (1 : Int64), .long x3_a29]) ⟨hx, hb, hml, hown, hts⟩ hK hN F (c_X6_draw l D cI cJ ad _ (mo_pageLength := mo_pageLength) (mo_page := mo_page) (mo_nodes := mo_nodes) (mo_links := mo_links) (mo_fromOf := mo_fromOf) (mo_toOf := mo_toOf) (mo_width := mo_width) (mo_drawn := mo_drawn) (mo_seed := mo_seed) (mo_bundleOf := mo_bundleOf) (mo_netsRead := mo_netsRead) (mo_sent := mo_sent) (mo_passagesEver := mo_passagesEver) (mo_astrayEver := mo_astrayEver) (mo_loopsEver := mo_loopsEver) (mo_newNodes := mo_newNodes) (mo_newPairs := mo_newPairs) (mo_due := mo_due) (mo_newOne := mo_newOne) (mo_newFrom := mo_newFrom) (mo_newTo := mo_newTo) (mo_marks := mo_marks_a18) (mo_drawing := mo_drawing_a29) (mo_leftOf := mo_leftOf) (mo_wayMany := mo_wayMany) (mo_wayAt := mo_wayAt) (mo_bitsNow := mo_bitsNow) (mo_passages := mo_passages) (mo_astray := mo_astray) (mo_loops := mo_loops) (mo_steps := mo_steps) (mo_reached := mo_reached) (mo_others := mo_others) (mo_h := mo_h) mo_width (o_res := r15) (o_mo_drawing := mo_drawing_16) h14) (cwV 1 hts gX6_layMarks_X6_draw rfl rfl rfl (by decide +kernel) ⟨Nat.le_of_ble_eq_true rfl, Nat.le_of_ble_eq_true rfl⟩) (ci := 6) rfl rfl rfl hl.1 rfl (Nat.le_of_ble_eq_true rfl) dX6_layMarks_59 ⟨Nat.zero_le _, Nat.zero_le _⟩) (fun H locs hP hD hS => ?_)
                      refine lv_lshl (v := ((1 : Int64) <<< ((r15).toInt64 &&& 63))) hx hb dX6_layMarks_62 rfl ?_
                      refine lv_lor hx hb dX6_layMarks_63 ?_
                      refine lv_lstore_n (lv' := [(3, .long (x3_a29 ||| ((1 : Int64) <<< ((r15).toInt64 &&& 63)))), (0, .ref (ad 15)), (1, .int x1_a11), (2, .int x2_a18), (5, .int x5_a29)]) hx hb dX6_layMarks_64 rfl hl (by decide) rfl (fun ls hl => ?_)
                      refine lv_iinc (v := (x5_a29 + (1 : Int32))) (lv' := [(5, .int (x5_a29 + (1 : Int32))), (3, .long (x3_a29 ||| ((1 : Int64) <<< ((r15).toInt64 &&& 63)))), (0, .ref (ad 15)), (1, .int x1_a11), (2, .int x2_a18)]) hx hb dX6_layMarks_65 hl (k := 4) rfl rfl (by decide) rfl (fun ls hl => ?_)
                      refine lv_goto (tgt := 29) hx hb dX6_layMarks_68 (by decide) ?_
                      exact ih mo_drawing_16 (x3_a29 ||| ((1 : Int64) <<< ((r15).toInt64 &&& 63))) (x5_a29 + (1 : Int32)) _ _ hf kk _ _ _ hP hD hS (lv_sub hl [2, 3, 4, 1, 0] rfl)
                    · have hf := oo_f hf c13
                      refine lv_iload_n hx hb dX6_layMarks_46 rfl (lv_at hl 2 rfl) ?_
                      refine lv_bipush (v := (16 : Int32)) hx hb dX6_layMarks_47 (by decide) ?_
                      refine lv_icmp_lt (tgt := 71) hx hb dX6_layMarks_49 (by decide) (fun c18 => ?_) (fun c18 => ?_)
                      · have hf := oo_t hf c18
                        cases hf
                        exact kk _ _ _ hP hD hS (lv_sub hl [0, 1, 2, 3] rfl)
                      · have hf := oo_f hf c18
                        refine lv_lload_n hx hb dX6_layMarks_52 rfl (lv_at hl 3 rfl) ?_
                        refine lv_lconst (v := (1 : Int64)) hx hb dX6_layMarks_53 (by decide) ?_
                        refine lv_aload_n hx hb dX6_layMarks_54 rfl (lv_at hl 0 rfl) ?_
                        refine lv_aload_n hx hb dX6_layMarks_55 rfl (lv_at hl 0 rfl) ?_
                        refine va_get (ci := 6) (v := .int mo_width) (C := RX6) (T := TX6) (N := 34) hx hb hts hin_X6 hown hK hP 0 rfl rfl 6 (by decide) fl_19 (fun _ h9 => h9) rfl dX6_layMarks_56 ?_
                        obtain ⟨⟨r20, mo_drawing_21⟩, h19, hf⟩ := oo_b hf
                        try dsimp only at hf
                        have F : Fr D A _ (wdM cI cJ ad mo_pageLength mo_page mo_nodes mo_links mo_fromOf mo_toOf mo_width mo_drawn mo_seed mo_bundleOf mo_netsRead mo_sent mo_passagesEver mo_astrayEver mo_loopsEver mo_newNodes mo_newPairs mo_due mo_newOne mo_newFrom mo_newTo mo_marks_a18 mo_drawing_a29 mo_leftOf mo_wayMany mo_wayAt mo_bitsNow mo_passages mo_astray mo_loops mo_steps mo_reached mo_others mo_h) (wdM cI cJ ad mo_pageLength mo_page mo_nodes mo_links mo_fromOf mo_toOf mo_width mo_drawn mo_seed mo_bundleOf mo_netsRead mo_sent mo_passagesEver mo_astrayEver mo_loopsEver mo_newNodes mo_newPairs mo_due mo_newOne mo_newFrom mo_newTo mo_marks_a18 mo_drawing_21 mo_leftOf mo_wayMany mo_wayAt mo_bitsNow mo_passages mo_astray mo_loops mo_steps mo_reached mo_others mo_h) (wdM cI cJ ad mo_pageLength mo_page mo_nodes mo_links mo_fromOf mo_toOf mo_width mo_drawn mo_seed mo_bundleOf mo_netsRead mo_sent mo_passagesEver mo_astrayEver mo_loopsEver mo_newNodes mo_newPairs mo_due mo_newOne mo_newFrom mo_newTo mo_marks_a18 mo_drawing_21 mo_leftOf mo_wayMany mo_wayAt mo_bitsNow mo_passages mo_astray mo_loops mo_steps mo_reached mo_others mo_h) := fr_self hP hD hS hA
                        refine kI F hS (rV (q := (RX6, TX6, 34)) (As := [.int mo_width]) (rest := [.long (1 : Int64), .long x3_a29]) ⟨hx, hb, hml, hown, hts⟩ hK hN F (c_X6_draw l D cI cJ ad _ (mo_pageLength := mo_pageLength) (mo_page := mo_page) (mo_nodes := mo_nodes) (mo_links := mo_links) (mo_fromOf := mo_fromOf) (mo_toOf := mo_toOf) (mo_width := mo_width) (mo_drawn := mo_drawn) (mo_seed := mo_seed) (mo_bundleOf := mo_bundleOf) (mo_netsRead := mo_netsRead) (mo_sent := mo_sent) (mo_passagesEver := mo_passagesEver) (mo_astrayEver := mo_astrayEver) (mo_loopsEver := mo_loopsEver) (mo_newNodes := mo_newNodes) (mo_newPairs := mo_newPairs) (mo_due := mo_due) (mo_newOne := mo_newOne) (mo_newFrom := mo_newFrom) (mo_newTo := mo_newTo) (mo_marks := mo_marks_a18) (mo_drawing := mo_drawing_a29) (mo_leftOf := mo_leftOf) (mo_wayMany := mo_wayMany) (mo_wayAt := mo_wayAt) (mo_bitsNow := mo_bitsNow) (mo_passages := mo_passages) (mo_astray := mo_astray) (mo_loops := mo_loops) (mo_steps := mo_steps) (mo_reached := mo_reached) (mo_others := mo_others) (mo_h := mo_h) mo_width (o_res := r20) (o_mo_drawing := mo_drawing_21) h19) (cwV 1 hts gX6_layMarks_X6_draw rfl rfl rfl (by decide +kernel) ⟨Nat.le_of_ble_eq_true rfl, Nat.le_of_ble_eq_true rfl⟩) (ci := 6) rfl rfl rfl hl.1 rfl (Nat.le_of_ble_eq_true rfl) dX6_layMarks_59 ⟨Nat.zero_le _, Nat.zero_le _⟩) (fun H locs hP hD hS => ?_)
                        refine lv_lshl (v := ((1 : Int64) <<< ((r20).toInt64 &&& 63))) hx hb dX6_layMarks_62 rfl ?_
                        refine lv_lor hx hb dX6_layMarks_63 ?_
                        refine lv_lstore_n (lv' := [(3, .long (x3_a29 ||| ((1 : Int64) <<< ((r20).toInt64 &&& 63)))), (0, .ref (ad 15)), (1, .int x1_a11), (2, .int x2_a18), (5, .int x5_a29)]) hx hb dX6_layMarks_64 rfl hl (by decide) rfl (fun ls hl => ?_)
                        refine lv_iinc (v := (x5_a29 + (1 : Int32))) (lv' := [(5, .int (x5_a29 + (1 : Int32))), (3, .long (x3_a29 ||| ((1 : Int64) <<< ((r20).toInt64 &&& 63)))), (0, .ref (ad 15)), (1, .int x1_a11), (2, .int x2_a18)]) hx hb dX6_layMarks_65 hl (k := 4) rfl rfl (by decide) rfl (fun ls hl => ?_)
                        refine lv_goto (tgt := 29) hx hb dX6_layMarks_68 (by decide) ?_
                        exact ih mo_drawing_21 (x3_a29 ||| ((1 : Int64) <<< ((r20).toInt64 &&& 63))) (x5_a29 + (1 : Int32)) _ _ hf kk _ _ _ hP hD hS (lv_sub hl [2, 3, 4, 1, 0] rfl)
              obtain ⟨⟨mo_drawing_o9, x3_o10⟩, h23, hf⟩ := oo_b hf
              try dsimp only at hf
              refine lp11  100 mo_drawing_a18 (0 : Int64) (0 : Int32) mo_drawing_o9 x3_o10 h23 (fun H locs ls hP hD hS hl => ?_) _ _ _ hP hD hS (lv_sub hl [2, 3, 4, 1, 0] rfl)
              refine lv_aload_n hx hb dX6_layMarks_71 rfl (lv_at hl 0 rfl) ?_
              refine va_get (ci := 6) (v := .ref (ad 22)) (C := RX6) (T := TX6) (N := 34) hx hb hts hin_X6 hown hK hP 0 rfl rfl 21 (by decide) fl_38 (fun _ h9 => h9) rfl dX6_layMarks_72 ?_
              refine lv_bipush (v := (20 : Int32)) hx hb dX6_layMarks_75 (by decide) ?_
              refine lv_iload_n hx hb dX6_layMarks_77 rfl (lv_at hl 1 rfl) ?_
              refine lv_imul hx hb dX6_layMarks_78 ?_
              refine lv_iload_n hx hb dX6_layMarks_79 rfl (lv_at hl 2 rfl) ?_
              refine lv_iadd hx hb dX6_layMarks_80 ?_
              refine lv_lload_n hx hb dX6_layMarks_81 rfl (lv_at hl 3 rfl) ?_
              obtain ⟨g24, hf⟩ := oo_g hf
              refine va_last hx hb hK hP hD hS 7 1 rfl rfl g24 dX6_layMarks_82 (fun H locs hP hD hS => ?_)
              have hP : va_P D vwCl (wdM cI cJ ad mo_pageLength mo_page mo_nodes mo_links mo_fromOf mo_toOf mo_width mo_drawn mo_seed mo_bundleOf mo_netsRead mo_sent mo_passagesEver mo_astrayEver mo_loopsEver mo_newNodes mo_newPairs mo_due mo_newOne mo_newFrom mo_newTo (vp_updL mo_marks_a18 ((((20 : Int32) * x1_a11) + x2_a18)).toNatClampNeg x3_o10) mo_drawing_o9 mo_leftOf mo_wayMany mo_wayAt mo_bitsNow mo_passages mo_astray mo_loops mo_steps mo_reached mo_others mo_h) H := hP
              have hD : va_D A (wdM cI cJ ad mo_pageLength mo_page mo_nodes mo_links mo_fromOf mo_toOf mo_width mo_drawn mo_seed mo_bundleOf mo_netsRead mo_sent mo_passagesEver mo_astrayEver mo_loopsEver mo_newNodes mo_newPairs mo_due mo_newOne mo_newFrom mo_newTo (vp_updL mo_marks_a18 ((((20 : Int32) * x1_a11) + x2_a18)).toNatClampNeg x3_o10) mo_drawing_o9 mo_leftOf mo_wayMany mo_wayAt mo_bitsNow mo_passages mo_astray mo_loops mo_steps mo_reached mo_others mo_h) := hD
              refine lv_iinc (v := (x2_a18 + (1 : Int32))) (lv' := [(2, .int (x2_a18 + (1 : Int32))), (0, .ref (ad 15)), (1, .int x1_a11), (3, .long x3_o10)]) hx hb dX6_layMarks_83 hl (k := 2) rfl rfl (by decide) rfl (fun ls hl => ?_)
              refine lv_goto (tgt := 18) hx hb dX6_layMarks_86 (by decide) ?_
              exact ih (vp_updL mo_marks_a18 ((((20 : Int32) * x1_a11) + x2_a18)).toNatClampNeg x3_o10) mo_drawing_o9 (x2_a18 + (1 : Int32)) _ _ hf kk _ _ _ hP hD hS (lv_sub hl [1, 2, 0] rfl)
        obtain ⟨⟨mo_marks_o5, mo_drawing_o6⟩, h25, hf⟩ := oo_b hf
        try dsimp only at hf
        refine lp7  100 mo_marks_a11 mo_drawing_a11 (0 : Int32) mo_marks_o5 mo_drawing_o6 h25 (fun H locs ls hP hD hS hl => ?_) _ _ _ hP hD hS (lv_sub hl [1, 2, 0] rfl)
        refine lv_iinc (v := (x1_a11 + (1 : Int32))) (lv' := [(1, .int (x1_a11 + (1 : Int32))), (0, .ref (ad 15))]) hx hb dX6_layMarks_89 hl (k := 1) rfl rfl (by decide) rfl (fun ls hl => ?_)
        refine lv_goto (tgt := 11) hx hb dX6_layMarks_92 (by decide) ?_
        exact ih mo_marks_o5 mo_drawing_o6 (x1_a11 + (1 : Int32)) _ _ hf kk _ _ _ hP hD hS (lv_sub hl [1, 0] rfl)
  obtain ⟨⟨mo_marks_o1, mo_drawing_o2⟩, h26, hf⟩ := oo_b hf
  try dsimp only at hf
  refine lp3  100 mo_marks ((mo_seed).toInt64) (0 : Int32) mo_marks_o1 mo_drawing_o2 h26 (fun H locs ls hP hD hS hl => ?_) _ _ _ hP hD hS (lv_sub hl [1, 0] rfl)
  cases hf
  exact hret _ _ _ _ dX6_layMarks_95 hP hD hS
def f_X6_net_L49 (mo_newPairs_4 : Int32) (mo_newFrom_7 : Nat → Int32) (mo_newTo_8 : Nat → Int32) : Nat → (Nat → Int32) → (Nat → Int32) → Int32 → Option ((Nat → Int32) × (Nat → Int32))
  | 0, _, _, _ => none
  | n + 1, mo_fromOf_a49, mo_toOf_a49, x1_a49 =>
      if mo_newPairs_4 ≤ x1_a49 then
        some (mo_fromOf_a49, mo_toOf_a49)
      else
        if x1_a49 < 0 ∨ 8 ≤ (x1_a49).toNatClampNeg then none else
        if ((2 : Int32) * x1_a49) < 0 ∨ 16 ≤ (((2 : Int32) * x1_a49)).toNatClampNeg then none else
        if (((2 : Int32) * x1_a49) + (1 : Int32)) < 0 ∨ 16 ≤ ((((2 : Int32) * x1_a49) + (1 : Int32))).toNatClampNeg then none else
        f_X6_net_L49 mo_newPairs_4 mo_newFrom_7 mo_newTo_8 n (upd (upd mo_fromOf_a49 (((2 : Int32) * x1_a49)).toNatClampNeg (mo_newFrom_7 (x1_a49).toNatClampNeg)) ((((2 : Int32) * x1_a49) + (1 : Int32))).toNatClampNeg (mo_newTo_8 (x1_a49).toNatClampNeg)) (upd (upd mo_toOf_a49 (((2 : Int32) * x1_a49)).toNatClampNeg (mo_newTo_8 (x1_a49).toNatClampNeg)) ((((2 : Int32) * x1_a49) + (1 : Int32))).toNatClampNeg (mo_newFrom_7 (x1_a49).toNatClampNeg)) (x1_a49 + (1 : Int32))
theorem f_X6_net_L49_s (mo_newPairs_4 : Int32) (mo_newFrom_7 : Nat → Int32) (mo_newTo_8 : Nat → Int32) (n : Nat) (mo_fromOf_a49 : Nat → Int32) (mo_toOf_a49 : Nat → Int32) (x1_a49 : Int32) : f_X6_net_L49 mo_newPairs_4 mo_newFrom_7 mo_newTo_8 (n + 1) mo_fromOf_a49 mo_toOf_a49 x1_a49 =
      (if mo_newPairs_4 ≤ x1_a49 then
        some (mo_fromOf_a49, mo_toOf_a49)
      else
        if x1_a49 < 0 ∨ 8 ≤ (x1_a49).toNatClampNeg then none else
        if ((2 : Int32) * x1_a49) < 0 ∨ 16 ≤ (((2 : Int32) * x1_a49)).toNatClampNeg then none else
        if (((2 : Int32) * x1_a49) + (1 : Int32)) < 0 ∨ 16 ≤ ((((2 : Int32) * x1_a49) + (1 : Int32))).toNatClampNeg then none else
        f_X6_net_L49 mo_newPairs_4 mo_newFrom_7 mo_newTo_8 n (upd (upd mo_fromOf_a49 (((2 : Int32) * x1_a49)).toNatClampNeg (mo_newFrom_7 (x1_a49).toNatClampNeg)) ((((2 : Int32) * x1_a49) + (1 : Int32))).toNatClampNeg (mo_newTo_8 (x1_a49).toNatClampNeg)) (upd (upd mo_toOf_a49 (((2 : Int32) * x1_a49)).toNatClampNeg (mo_newTo_8 (x1_a49).toNatClampNeg)) ((((2 : Int32) * x1_a49) + (1 : Int32))).toNatClampNeg (mo_newFrom_7 (x1_a49).toNatClampNeg)) (x1_a49 + (1 : Int32))) := rfl
def f_X6_net_L125  : Nat → (Nat → Int32) → Int32 → Option ((Nat → Int32))
  | 0, _, _ => none
  | n + 1, mo_bundleOf_a125, x1_a125 =>
      if (4 : Int32) ≤ x1_a125 then
        some mo_bundleOf_a125
      else
        if x1_a125 < 0 ∨ 4 ≤ (x1_a125).toNatClampNeg then none else
        f_X6_net_L125  n (upd mo_bundleOf_a125 (x1_a125).toNatClampNeg (0 : Int32)) (x1_a125 + (1 : Int32))
theorem f_X6_net_L125_s  (n : Nat) (mo_bundleOf_a125 : Nat → Int32) (x1_a125 : Int32) : f_X6_net_L125  (n + 1) mo_bundleOf_a125 x1_a125 =
      (if (4 : Int32) ≤ x1_a125 then
        some mo_bundleOf_a125
      else
        if x1_a125 < 0 ∨ 4 ≤ (x1_a125).toNatClampNeg then none else
        f_X6_net_L125  n (upd mo_bundleOf_a125 (x1_a125).toNatClampNeg (0 : Int32)) (x1_a125 + (1 : Int32))) := rfl
def f_X6_net (mo_pageLength : Int32) (mo_page : Nat → Int32) (mo_nodes : Int32) (mo_links : Int32) (mo_fromOf : Nat → Int32) (mo_toOf : Nat → Int32) (mo_width : Int32) (mo_drawn : Int32) (mo_seed : Int32) (mo_bundleOf : Nat → Int32) (mo_netsRead : Int32) (mo_newOne : Int32) (mo_newFrom : Nat → Int32) (mo_newTo : Nat → Int32) (mo_marks : Nat → Int64) (mo_drawing : Int64) : Option (Int32 × Int32 × Int32 × Int32 × (Nat → Int32) × (Nat → Int32) × (Nat → Int32) × Int32 × Int32 × Int32 × Int32 × Int32 × (Nat → Int32) × (Nat → Int32) × (Nat → Int64) × Int64) :=
  Option.bind (f_X6_goAlong mo_pageLength mo_page mo_newOne mo_newFrom mo_newTo) fun (r2, mo_newNodes_3, mo_newPairs_4, mo_due_5, mo_newOne_6, mo_newFrom_7, mo_newTo_8) =>
  if r2 < mo_pageLength then
    some ((-1003 : Int32), mo_pageLength, mo_nodes, mo_links, mo_fromOf, mo_toOf, mo_bundleOf, mo_netsRead, mo_newNodes_3, mo_newPairs_4, mo_due_5, mo_newOne_6, mo_newFrom_7, mo_newTo_8, mo_marks, mo_drawing)
  else
    if mo_newPairs_4 = (0 : Int32) then
      some ((-1003 : Int32), mo_pageLength, mo_nodes, mo_links, mo_fromOf, mo_toOf, mo_bundleOf, mo_netsRead, mo_newNodes_3, mo_newPairs_4, mo_due_5, mo_newOne_6, mo_newFrom_7, mo_newTo_8, mo_marks, mo_drawing)
    else
      if mo_due_5 = (0 : Int32) then
        Option.bind (f_X6_net_L49 mo_newPairs_4 mo_newFrom_7 mo_newTo_8 100 mo_fromOf mo_toOf (0 : Int32)) fun (mo_fromOf_o13, mo_toOf_o14) =>
        Option.bind (f_X6_net_L125  100 mo_bundleOf (0 : Int32)) fun mo_bundleOf_o26 =>
        Option.bind (f_X6_layMarks ((2 : Int32) * mo_newPairs_4) mo_width mo_drawn mo_seed mo_marks) fun (mo_marks_32, mo_drawing_33) =>
        some (((2 : Int32) * mo_newPairs_4), (0 : Int32), mo_newNodes_3, ((2 : Int32) * mo_newPairs_4), mo_fromOf_o13, mo_toOf_o14, mo_bundleOf_o26, (mo_netsRead + (1 : Int32)), mo_newNodes_3, mo_newPairs_4, mo_due_5, mo_newOne_6, mo_newFrom_7, mo_newTo_8, mo_marks_32, mo_drawing_33)
      else
        some ((-1003 : Int32), mo_pageLength, mo_nodes, mo_links, mo_fromOf, mo_toOf, mo_bundleOf, mo_netsRead, mo_newNodes_3, mo_newPairs_4, mo_due_5, mo_newOne_6, mo_newFrom_7, mo_newTo_8, mo_marks, mo_drawing)
abbrev rm_X6_net : Room := { frames := 4, cells := 0, slots := 0, locals := 89 }
set_option maxHeartbeats 4000000 in
set_option maxRecDepth 100000 in
theorem c_X6_net (l : Launch) (D : va_G) (cI cJ : ClassId) (ad : Nat → Nat) (sz : Nat) {mo_pageLength : Int32} {mo_page : Nat → Int32} {mo_nodes mo_links : Int32} {mo_fromOf mo_toOf : Nat → Int32} {mo_width mo_drawn mo_seed : Int32} {mo_bundleOf : Nat → Int32} {mo_netsRead mo_sent mo_passagesEver mo_astrayEver mo_loopsEver mo_newNodes mo_newPairs mo_due mo_newOne : Int32} {mo_newFrom mo_newTo : Nat → Int32} {mo_marks : Nat → Int64} {mo_drawing : Int64} {mo_leftOf : Nat → Int32} {mo_wayMany : Int32} {mo_wayAt : Nat → Int32} {mo_bitsNow : Int64} {mo_passages mo_astray mo_loops mo_steps mo_reached mo_others : Int32} {mo_h : Int64}  {o_res : Int32} {o_mo_pageLength : Int32} {o_mo_nodes : Int32} {o_mo_links : Int32} {o_mo_fromOf : Nat → Int32} {o_mo_toOf : Nat → Int32} {o_mo_bundleOf : Nat → Int32} {o_mo_netsRead : Int32} {o_mo_newNodes : Int32} {o_mo_newPairs : Int32} {o_mo_due : Int32} {o_mo_newOne : Int32} {o_mo_newFrom : Nat → Int32} {o_mo_newTo : Nat → Int32} {o_mo_marks : Nat → Int64} {o_mo_drawing : Int64} (hf : f_X6_net mo_pageLength mo_page mo_nodes mo_links mo_fromOf mo_toOf mo_width mo_drawn mo_seed mo_bundleOf mo_netsRead mo_newOne mo_newFrom mo_newTo mo_marks mo_drawing = some (o_res, o_mo_pageLength, o_mo_nodes, o_mo_links, o_mo_fromOf, o_mo_toOf, o_mo_bundleOf, o_mo_netsRead, o_mo_newNodes, o_mo_newPairs, o_mo_due, o_mo_newOne, o_mo_newFrom, o_mo_newTo, o_mo_marks, o_mo_drawing)) : CtI l yX6_net wsX6_net rm_X6_net D cI cJ [.ref (ad 15)] (wdM cI cJ ad mo_pageLength mo_page mo_nodes mo_links mo_fromOf mo_toOf mo_width mo_drawn mo_seed mo_bundleOf mo_netsRead mo_sent mo_passagesEver mo_astrayEver mo_loopsEver mo_newNodes mo_newPairs mo_due mo_newOne mo_newFrom mo_newTo mo_marks mo_drawing mo_leftOf mo_wayMany mo_wayAt mo_bitsNow mo_passages mo_astray mo_loops mo_steps mo_reached mo_others mo_h) sz o_res (wdM cI cJ ad o_mo_pageLength mo_page o_mo_nodes o_mo_links o_mo_fromOf o_mo_toOf mo_width mo_drawn mo_seed o_mo_bundleOf o_mo_netsRead mo_sent mo_passagesEver mo_astrayEver mo_loopsEver o_mo_newNodes o_mo_newPairs o_mo_due o_mo_newOne o_mo_newFrom o_mo_newTo o_mo_marks o_mo_drawing mo_leftOf mo_wayMany mo_wayAt mo_bitsNow mo_passages mo_astray mo_loops mo_steps mo_reached mo_others mo_h) := by
  refine ctI_of (cc := cX6_net) (maxL := 2) (by decide) rfl (Nat.le_of_ble_eq_true rfl) ?_
  intro p e s m below meth c Q A hx hb hml hown hts hK hN hA hret ls hl hP hD hS
  obtain ⟨args, hargs⟩ : ∃ a : Array Value, a = [.ref (ad 15)].toArray := ⟨_, rfl⟩
  rw [← hargs] at hts hret ⊢
  have hown : s.vm.findClass RX6 = some m.cls := hown
  have hl : lv_has ls 2 [(0, .ref (ad 15))] := hl
  have hin_X6 : ∀ w ∈ wsX60, w ∈ wsX6_net := fun _ h => List.mem_cons_of_mem _ (List.mem_append_right _ h)
  have fl_13 : (Cond.fieldLink RX6 13 "FoldedWaysModel" "fromOf" "[I").before args s = true := hat hts 7 rfl
  have fl_16 : (Cond.fieldLink RX6 16 "FoldedWaysModel" "toOf" "[I").before args s = true := hat hts 9 rfl
  have fl_29 : (Cond.fieldLink RX6 29 "FoldedWaysModel" "bundleOf" "[I").before args s = true := hat hts 11 rfl
  have fl_32 : (Cond.fieldLink RX6 32 "FoldedWaysModel" "newFrom" "[I").before args s = true := hat hts 8 rfl
  have fl_35 : (Cond.fieldLink RX6 35 "FoldedWaysModel" "newTo" "[I").before args s = true := hat hts 10 rfl
  have fl_52 : (Cond.fieldLink RX6 52 "FoldedWaysModel" "pageLength" "I").before args s = true := hat hts 1 rfl
  have fl_55 : (Cond.fieldLink RX6 55 "FoldedWaysModel" "newPairs" "I").before args s = true := hat hts 2 rfl
  have fl_58 : (Cond.fieldLink RX6 58 "FoldedWaysModel" "newNodes" "I").before args s = true := hat hts 4 rfl
  have fl_61 : (Cond.fieldLink RX6 61 "FoldedWaysModel" "due" "I").before args s = true := hat hts 3 rfl
  have fl_82 : (Cond.fieldLink RX6 82 "FoldedWaysModel" "nodes" "I").before args s = true := hat hts 5 rfl
  have fl_85 : (Cond.fieldLink RX6 85 "FoldedWaysModel" "links" "I").before args s = true := hat hts 6 rfl
  have fl_88 : (Cond.fieldLink RX6 88 "FoldedWaysModel" "netsRead" "I").before args s = true := hat hts 12 rfl
  unfold f_X6_net at hf
  refine lv_aload_n hx hb dX6_net_0 rfl (lv_at hl 0 rfl) ?_
  obtain ⟨⟨r2, mo_newNodes_3, mo_newPairs_4, mo_due_5, mo_newOne_6, mo_newFrom_7, mo_newTo_8⟩, h1, hf⟩ := oo_b hf
  try dsimp only at hf
  have F : Fr D A _ (wdM cI cJ ad mo_pageLength mo_page mo_nodes mo_links mo_fromOf mo_toOf mo_width mo_drawn mo_seed mo_bundleOf mo_netsRead mo_sent mo_passagesEver mo_astrayEver mo_loopsEver mo_newNodes mo_newPairs mo_due mo_newOne mo_newFrom mo_newTo mo_marks mo_drawing mo_leftOf mo_wayMany mo_wayAt mo_bitsNow mo_passages mo_astray mo_loops mo_steps mo_reached mo_others mo_h) (wdM cI cJ ad mo_pageLength mo_page mo_nodes mo_links mo_fromOf mo_toOf mo_width mo_drawn mo_seed mo_bundleOf mo_netsRead mo_sent mo_passagesEver mo_astrayEver mo_loopsEver mo_newNodes_3 mo_newPairs_4 mo_due_5 mo_newOne_6 mo_newFrom_7 mo_newTo_8 mo_marks mo_drawing mo_leftOf mo_wayMany mo_wayAt mo_bitsNow mo_passages mo_astray mo_loops mo_steps mo_reached mo_others mo_h) (wdM cI cJ ad mo_pageLength mo_page mo_nodes mo_links mo_fromOf mo_toOf mo_width mo_drawn mo_seed mo_bundleOf mo_netsRead mo_sent mo_passagesEver mo_astrayEver mo_loopsEver mo_newNodes_3 mo_newPairs_4 mo_due_5 mo_newOne_6 mo_newFrom_7 mo_newTo_8 mo_marks mo_drawing mo_leftOf mo_wayMany mo_wayAt mo_bitsNow mo_passages mo_astray mo_loops mo_steps mo_reached mo_others mo_h) := fr_self hP hD hS hA
  refine kI F hS (rV (q := (RX6, TX6, 34)) (As := []) (rest := []) ⟨hx, hb, hml, hown, hts⟩ hK hN F (c_X6_goAlong l D cI cJ ad _ (mo_pageLength := mo_pageLength) (mo_page := mo_page) (mo_nodes := mo_nodes) (mo_links := mo_links) (mo_fromOf := mo_fromOf) (mo_toOf := mo_toOf) (mo_width := mo_width) (mo_drawn := mo_drawn) (mo_seed := mo_seed) (mo_bundleOf := mo_bundleOf) (mo_netsRead := mo_netsRead) (mo_sent := mo_sent) (mo_passagesEver := mo_passagesEver) (mo_astrayEver := mo_astrayEver) (mo_loopsEver := mo_loopsEver) (mo_newNodes := mo_newNodes) (mo_newPairs := mo_newPairs) (mo_due := mo_due) (mo_newOne := mo_newOne) (mo_newFrom := mo_newFrom) (mo_newTo := mo_newTo) (mo_marks := mo_marks) (mo_drawing := mo_drawing) (mo_leftOf := mo_leftOf) (mo_wayMany := mo_wayMany) (mo_wayAt := mo_wayAt) (mo_bitsNow := mo_bitsNow) (mo_passages := mo_passages) (mo_astray := mo_astray) (mo_loops := mo_loops) (mo_steps := mo_steps) (mo_reached := mo_reached) (mo_others := mo_others) (mo_h := mo_h)  (o_res := r2) (o_mo_newNodes := mo_newNodes_3) (o_mo_newPairs := mo_newPairs_4) (o_mo_due := mo_due_5) (o_mo_newOne := mo_newOne_6) (o_mo_newFrom := mo_newFrom_7) (o_mo_newTo := mo_newTo_8) h1) (cwV 0 hts gX6_net_X6_goAlong rfl rfl rfl (by decide +kernel) ⟨Nat.le_of_ble_eq_true rfl, Nat.le_of_ble_eq_true rfl⟩) (ci := 6) rfl rfl rfl hl.1 rfl (Nat.le_of_ble_eq_true rfl) dX6_net_1 ⟨Nat.zero_le _, Nat.zero_le _⟩) (fun H locs hP hD hS => ?_)
  refine lv_aload_n hx hb dX6_net_4 rfl (lv_at hl 0 rfl) ?_
  refine va_get (ci := 6) (v := .int mo_pageLength) (C := RX6) (T := TX6) (N := 34) hx hb hts hin_X6 hown hK hP 0 rfl rfl 0 (by decide) fl_52 (fun _ h9 => h9) rfl dX6_net_5 ?_
  refine lv_icmp_lt (tgt := 25) hx hb dX6_net_8 (by decide) (fun c10 => ?_) (fun c10 => ?_)
  · have hf := oo_t hf c10
    refine lv_sipush (v := (-1003 : Int32)) hx hb dX6_net_25 (by decide) ?_
    cases hf
    exact hret _ _ _ _ dX6_net_28 hP hD hS
  · have hf := oo_f hf c10
    refine lv_aload_n hx hb dX6_net_11 rfl (lv_at hl 0 rfl) ?_
    refine va_get (ci := 6) (v := .int mo_newPairs_4) (C := RX6) (T := TX6) (N := 34) hx hb hts hin_X6 hown hK hP 0 rfl rfl 16 (by decide) fl_55 (fun _ h9 => h9) rfl dX6_net_12 ?_
    refine lv_if_eq (tgt := 25) hx hb dX6_net_15 (by decide) (fun c11 => ?_) (fun c11 => ?_)
    · have hf := oo_t hf c11
      refine lv_sipush (v := (-1003 : Int32)) hx hb dX6_net_25 (by decide) ?_
      cases hf
      exact hret _ _ _ _ dX6_net_28 hP hD hS
    · have hf := oo_f hf c11
      refine lv_aload_n hx hb dX6_net_18 rfl (lv_at hl 0 rfl) ?_
      refine va_get (ci := 6) (v := .int mo_due_5) (C := RX6) (T := TX6) (N := 34) hx hb hts hin_X6 hown hK hP 0 rfl rfl 17 (by decide) fl_61 (fun _ h9 => h9) rfl dX6_net_19 ?_
      refine lv_if_eq (tgt := 29) hx hb dX6_net_22 (by decide) (fun c12 => ?_) (fun c12 => ?_)
      · have hf := oo_t hf c12
        refine lv_aload_n hx hb dX6_net_29 rfl (lv_at hl 0 rfl) ?_
        refine lv_aload_n hx hb dX6_net_30 rfl (lv_at hl 0 rfl) ?_
        refine va_get (ci := 6) (v := .int mo_newNodes_3) (C := RX6) (T := TX6) (N := 34) hx hb hts hin_X6 hown hK hP 0 rfl rfl 15 (by decide) fl_58 (fun _ h9 => h9) rfl dX6_net_31 ?_
        refine va_put (ci := 6) (v := .int mo_newNodes_3) (ty := .int) (C := RX6) (T := TX6) (N := 34) hx hb hts hin_X6 tyX6 tyX6_ok nmX6 hown hK hP hD hS 0 rfl rfl 2 (by decide) fl_82 (fun _ h9 => h9) rfl (by decide +kernel) rfl rfl (Nat.le_of_ble_eq_true rfl) dX6_net_34 (fun H locs hP hD hS => ?_)
        have hP : va_P D vwCl (wdM cI cJ ad mo_pageLength mo_page mo_newNodes_3 mo_links mo_fromOf mo_toOf mo_width mo_drawn mo_seed mo_bundleOf mo_netsRead mo_sent mo_passagesEver mo_astrayEver mo_loopsEver mo_newNodes_3 mo_newPairs_4 mo_due_5 mo_newOne_6 mo_newFrom_7 mo_newTo_8 mo_marks mo_drawing mo_leftOf mo_wayMany mo_wayAt mo_bitsNow mo_passages mo_astray mo_loops mo_steps mo_reached mo_others mo_h) H := hP
        have hD : va_D A (wdM cI cJ ad mo_pageLength mo_page mo_newNodes_3 mo_links mo_fromOf mo_toOf mo_width mo_drawn mo_seed mo_bundleOf mo_netsRead mo_sent mo_passagesEver mo_astrayEver mo_loopsEver mo_newNodes_3 mo_newPairs_4 mo_due_5 mo_newOne_6 mo_newFrom_7 mo_newTo_8 mo_marks mo_drawing mo_leftOf mo_wayMany mo_wayAt mo_bitsNow mo_passages mo_astray mo_loops mo_steps mo_reached mo_others mo_h) := hD
        refine lv_aload_n hx hb dX6_net_37 rfl (lv_at hl 0 rfl) ?_
        refine lv_iconst (v := (2 : Int32)) hx hb dX6_net_38 (by decide) ?_
        refine lv_aload_n hx hb dX6_net_39 rfl (lv_at hl 0 rfl) ?_
        refine va_get (ci := 6) (v := .int mo_newPairs_4) (C := RX6) (T := TX6) (N := 34) hx hb hts hin_X6 hown hK hP 0 rfl rfl 16 (by decide) fl_55 (fun _ h9 => h9) rfl dX6_net_40 ?_
        refine lv_imul hx hb dX6_net_43 ?_
        refine va_put (ci := 6) (v := .int ((2 : Int32) * mo_newPairs_4)) (ty := .int) (C := RX6) (T := TX6) (N := 34) hx hb hts hin_X6 tyX6 tyX6_ok nmX6 hown hK hP hD hS 0 rfl rfl 3 (by decide) fl_85 (fun _ h9 => h9) rfl (by decide +kernel) rfl rfl (Nat.le_of_ble_eq_true rfl) dX6_net_44 (fun H locs hP hD hS => ?_)
        have hP : va_P D vwCl (wdM cI cJ ad mo_pageLength mo_page mo_newNodes_3 ((2 : Int32) * mo_newPairs_4) mo_fromOf mo_toOf mo_width mo_drawn mo_seed mo_bundleOf mo_netsRead mo_sent mo_passagesEver mo_astrayEver mo_loopsEver mo_newNodes_3 mo_newPairs_4 mo_due_5 mo_newOne_6 mo_newFrom_7 mo_newTo_8 mo_marks mo_drawing mo_leftOf mo_wayMany mo_wayAt mo_bitsNow mo_passages mo_astray mo_loops mo_steps mo_reached mo_others mo_h) H := hP
        have hD : va_D A (wdM cI cJ ad mo_pageLength mo_page mo_newNodes_3 ((2 : Int32) * mo_newPairs_4) mo_fromOf mo_toOf mo_width mo_drawn mo_seed mo_bundleOf mo_netsRead mo_sent mo_passagesEver mo_astrayEver mo_loopsEver mo_newNodes_3 mo_newPairs_4 mo_due_5 mo_newOne_6 mo_newFrom_7 mo_newTo_8 mo_marks mo_drawing mo_leftOf mo_wayMany mo_wayAt mo_bitsNow mo_passages mo_astray mo_loops mo_steps mo_reached mo_others mo_h) := hD
        refine lv_iconst (v := (0 : Int32)) hx hb dX6_net_47 (by decide) ?_
        refine lv_istore_n (lv' := [(1, .int (0 : Int32)), (0, .ref (ad 15))]) hx hb dX6_net_48 rfl hl (by decide) rfl (fun ls hl => ?_)
        have lp15 : ∀ (n : Nat) (mo_fromOf_a49 : Nat → Int32) (mo_toOf_a49 : Nat → Int32) (x1_a49 : Int32) (mo_fromOf_o13 : Nat → Int32) (mo_toOf_o14 : Nat → Int32), f_X6_net_L49 mo_newPairs_4 mo_newFrom_7 mo_newTo_8 n mo_fromOf_a49 mo_toOf_a49 x1_a49 = some (mo_fromOf_o13, mo_toOf_o14) → (∀ (H : Heap) (locs : List Loc) (ls : Array Slot), va_P D vwCl (wdM cI cJ ad mo_pageLength mo_page mo_newNodes_3 ((2 : Int32) * mo_newPairs_4) mo_fromOf_o13 mo_toOf_o14 mo_width mo_drawn mo_seed mo_bundleOf mo_netsRead mo_sent mo_passagesEver mo_astrayEver mo_loopsEver mo_newNodes_3 mo_newPairs_4 mo_due_5 mo_newOne_6 mo_newFrom_7 mo_newTo_8 mo_marks mo_drawing mo_leftOf mo_wayMany mo_wayAt mo_bitsNow mo_passages mo_astray mo_loops mo_steps mo_reached mo_others mo_h) H → va_D A (wdM cI cJ ad mo_pageLength mo_page mo_newNodes_3 ((2 : Int32) * mo_newPairs_4) mo_fromOf_o13 mo_toOf_o14 mo_width mo_drawn mo_seed mo_bundleOf mo_netsRead mo_sent mo_passagesEver mo_astrayEver mo_loopsEver mo_newNodes_3 mo_newPairs_4 mo_due_5 mo_newOne_6 mo_newFrom_7 mo_newTo_8 mo_marks mo_drawing mo_leftOf mo_wayMany mo_wayAt mo_bitsNow mo_passages mo_astray mo_loops mo_steps mo_reached mo_others mo_h) → va_S A s.heap H locs → lv_has ls 2 [(0, .ref (ad 15))] → W p l e rm_X6_net s m args below meth c H locs 0 0 Q (F0 m 123 ls [])) → ∀ (H : Heap) (locs : List Loc) (ls : Array Slot), va_P D vwCl (wdM cI cJ ad mo_pageLength mo_page mo_newNodes_3 ((2 : Int32) * mo_newPairs_4) mo_fromOf_a49 mo_toOf_a49 mo_width mo_drawn mo_seed mo_bundleOf mo_netsRead mo_sent mo_passagesEver mo_astrayEver mo_loopsEver mo_newNodes_3 mo_newPairs_4 mo_due_5 mo_newOne_6 mo_newFrom_7 mo_newTo_8 mo_marks mo_drawing mo_leftOf mo_wayMany mo_wayAt mo_bitsNow mo_passages mo_astray mo_loops mo_steps mo_reached mo_others mo_h) H → va_D A (wdM cI cJ ad mo_pageLength mo_page mo_newNodes_3 ((2 : Int32) * mo_newPairs_4) mo_fromOf_a49 mo_toOf_a49 mo_width mo_drawn mo_seed mo_bundleOf mo_netsRead mo_sent mo_passagesEver mo_astrayEver mo_loopsEver mo_newNodes_3 mo_newPairs_4 mo_due_5 mo_newOne_6 mo_newFrom_7 mo_newTo_8 mo_marks mo_drawing mo_leftOf mo_wayMany mo_wayAt mo_bitsNow mo_passages mo_astray mo_loops mo_steps mo_reached mo_others mo_h) → va_S A s.heap H locs → lv_has ls 2 [(0, .ref (ad 15)), (1, .int x1_a49)] → W p l e rm_X6_net s m args below meth c H locs 0 0 Q (F0 m 49 ls []) := by
          intro n
          induction n with
          | zero =>
            intro mo_fromOf_a49 mo_toOf_a49 x1_a49 mo_fromOf_o13 mo_toOf_o14 h0
            exact oo_n h0
          | succ n ih =>
            intro mo_fromOf_a49 mo_toOf_a49 x1_a49 mo_fromOf_o13 mo_toOf_o14 hf kk H locs ls hP hD hS hl
            rw [f_X6_net_L49_s] at hf
            refine lv_iload_n hx hb dX6_net_49 rfl (lv_at hl 1 rfl) ?_
            refine lv_aload_n hx hb dX6_net_50 rfl (lv_at hl 0 rfl) ?_
            refine va_get (ci := 6) (v := .int mo_newPairs_4) (C := RX6) (T := TX6) (N := 34) hx hb hts hin_X6 hown hK hP 0 rfl rfl 16 (by decide) fl_55 (fun _ h9 => h9) rfl dX6_net_51 ?_
            refine lv_icmp_ge (tgt := 123) hx hb dX6_net_54 (by decide) (fun c16 => ?_) (fun c16 => ?_)
            · have hf := oo_t hf c16
              cases hf
              exact kk _ _ _ hP hD hS (lv_sub hl [0] rfl)
            · have hf := oo_f hf c16
              refine lv_aload_n hx hb dX6_net_57 rfl (lv_at hl 0 rfl) ?_
              refine va_get (ci := 6) (v := .ref (ad 17)) (C := RX6) (T := TX6) (N := 34) hx hb hts hin_X6 hown hK hP 0 rfl rfl 4 (by decide) fl_13 (fun _ h9 => h9) rfl dX6_net_58 ?_
              refine lv_iconst (v := (2 : Int32)) hx hb dX6_net_61 (by decide) ?_
              refine lv_iload_n hx hb dX6_net_62 rfl (lv_at hl 1 rfl) ?_
              refine lv_imul hx hb dX6_net_63 ?_
              refine lv_aload_n hx hb dX6_net_64 rfl (lv_at hl 0 rfl) ?_
              refine va_get (ci := 6) (v := .ref (ad 20)) (C := RX6) (T := TX6) (N := 34) hx hb hts hin_X6 hown hK hP 0 rfl rfl 19 (by decide) fl_32 (fun _ h9 => h9) rfl dX6_net_65 ?_
              refine lv_iload_n hx hb dX6_net_68 rfl (lv_at hl 1 rfl) ?_
              obtain ⟨g17, hf⟩ := oo_g hf
              refine va_iald hx hb hK hP 5 0 rfl rfl g17 dX6_net_69 ?_
              obtain ⟨g18, hf⟩ := oo_g hf
              refine va_iast hx hb hK hP hD hS 2 0 rfl rfl g18 dX6_net_70 (fun H locs hP hD hS => ?_)
              have hP : va_P D vwCl (wdM cI cJ ad mo_pageLength mo_page mo_newNodes_3 ((2 : Int32) * mo_newPairs_4) (upd mo_fromOf_a49 (((2 : Int32) * x1_a49)).toNatClampNeg (mo_newFrom_7 (x1_a49).toNatClampNeg)) mo_toOf_a49 mo_width mo_drawn mo_seed mo_bundleOf mo_netsRead mo_sent mo_passagesEver mo_astrayEver mo_loopsEver mo_newNodes_3 mo_newPairs_4 mo_due_5 mo_newOne_6 mo_newFrom_7 mo_newTo_8 mo_marks mo_drawing mo_leftOf mo_wayMany mo_wayAt mo_bitsNow mo_passages mo_astray mo_loops mo_steps mo_reached mo_others mo_h) H := hP
              have hD : va_D A (wdM cI cJ ad mo_pageLength mo_page mo_newNodes_3 ((2 : Int32) * mo_newPairs_4) (upd mo_fromOf_a49 (((2 : Int32) * x1_a49)).toNatClampNeg (mo_newFrom_7 (x1_a49).toNatClampNeg)) mo_toOf_a49 mo_width mo_drawn mo_seed mo_bundleOf mo_netsRead mo_sent mo_passagesEver mo_astrayEver mo_loopsEver mo_newNodes_3 mo_newPairs_4 mo_due_5 mo_newOne_6 mo_newFrom_7 mo_newTo_8 mo_marks mo_drawing mo_leftOf mo_wayMany mo_wayAt mo_bitsNow mo_passages mo_astray mo_loops mo_steps mo_reached mo_others mo_h) := hD
              refine lv_aload_n hx hb dX6_net_71 rfl (lv_at hl 0 rfl) ?_
              refine va_get (ci := 6) (v := .ref (ad 18)) (C := RX6) (T := TX6) (N := 34) hx hb hts hin_X6 hown hK hP 0 rfl rfl 5 (by decide) fl_16 (fun _ h9 => h9) rfl dX6_net_72 ?_
              refine lv_iconst (v := (2 : Int32)) hx hb dX6_net_75 (by decide) ?_
              refine lv_iload_n hx hb dX6_net_76 rfl (lv_at hl 1 rfl) ?_
              refine lv_imul hx hb dX6_net_77 ?_
              refine lv_aload_n hx hb dX6_net_78 rfl (lv_at hl 0 rfl) ?_
              refine va_get (ci := 6) (v := .ref (ad 21)) (C := RX6) (T := TX6) (N := 34) hx hb hts hin_X6 hown hK hP 0 rfl rfl 20 (by decide) fl_35 (fun _ h9 => h9) rfl dX6_net_79 ?_
              refine lv_iload_n hx hb dX6_net_82 rfl (lv_at hl 1 rfl) ?_
              refine va_iald hx hb hK hP 6 0 rfl rfl g17 dX6_net_83 ?_
              refine va_iast hx hb hK hP hD hS 3 0 rfl rfl g18 dX6_net_84 (fun H locs hP hD hS => ?_)
              have hP : va_P D vwCl (wdM cI cJ ad mo_pageLength mo_page mo_newNodes_3 ((2 : Int32) * mo_newPairs_4) (upd mo_fromOf_a49 (((2 : Int32) * x1_a49)).toNatClampNeg (mo_newFrom_7 (x1_a49).toNatClampNeg)) (upd mo_toOf_a49 (((2 : Int32) * x1_a49)).toNatClampNeg (mo_newTo_8 (x1_a49).toNatClampNeg)) mo_width mo_drawn mo_seed mo_bundleOf mo_netsRead mo_sent mo_passagesEver mo_astrayEver mo_loopsEver mo_newNodes_3 mo_newPairs_4 mo_due_5 mo_newOne_6 mo_newFrom_7 mo_newTo_8 mo_marks mo_drawing mo_leftOf mo_wayMany mo_wayAt mo_bitsNow mo_passages mo_astray mo_loops mo_steps mo_reached mo_others mo_h) H := hP
              have hD : va_D A (wdM cI cJ ad mo_pageLength mo_page mo_newNodes_3 ((2 : Int32) * mo_newPairs_4) (upd mo_fromOf_a49 (((2 : Int32) * x1_a49)).toNatClampNeg (mo_newFrom_7 (x1_a49).toNatClampNeg)) (upd mo_toOf_a49 (((2 : Int32) * x1_a49)).toNatClampNeg (mo_newTo_8 (x1_a49).toNatClampNeg)) mo_width mo_drawn mo_seed mo_bundleOf mo_netsRead mo_sent mo_passagesEver mo_astrayEver mo_loopsEver mo_newNodes_3 mo_newPairs_4 mo_due_5 mo_newOne_6 mo_newFrom_7 mo_newTo_8 mo_marks mo_drawing mo_leftOf mo_wayMany mo_wayAt mo_bitsNow mo_passages mo_astray mo_loops mo_steps mo_reached mo_others mo_h) := hD
              refine lv_aload_n hx hb dX6_net_85 rfl (lv_at hl 0 rfl) ?_
              refine va_get (ci := 6) (v := .ref (ad 17)) (C := RX6) (T := TX6) (N := 34) hx hb hts hin_X6 hown hK hP 0 rfl rfl 4 (by decide) fl_13 (fun _ h9 => h9) rfl dX6_net_86 ?_
              refine lv_iconst (v := (2 : Int32)) hx hb dX6_net_89 (by decide) ?_
              refine lv_iload_n hx hb dX6_net_90 rfl (lv_at hl 1 rfl) ?_
              refine lv_imul hx hb dX6_net_91 ?_
              refine lv_iconst (v := (1 : Int32)) hx hb dX6_net_92 (by decide) ?_
              refine lv_iadd hx hb dX6_net_93 ?_
              refine lv_aload_n hx hb dX6_net_94 rfl (lv_at hl 0 rfl) ?_
              refine va_get (ci := 6) (v := .ref (ad 21)) (C := RX6) (T := TX6) (N := 34) hx hb hts hin_X6 hown hK hP 0 rfl rfl 20 (by decide) fl_35 (fun _ h9 => h9) rfl dX6_net_95 ?_
              refine lv_iload_n hx hb dX6_net_98 rfl (lv_at hl 1 rfl) ?_
              refine va_iald hx hb hK hP 6 0 rfl rfl g17 dX6_net_99 ?_
              obtain ⟨g22, hf⟩ := oo_g hf
              refine va_iast hx hb hK hP hD hS 2 0 rfl rfl g22 dX6_net_100 (fun H locs hP hD hS => ?_)
              have hP : va_P D vwCl (wdM cI cJ ad mo_pageLength mo_page mo_newNodes_3 ((2 : Int32) * mo_newPairs_4) (upd (upd mo_fromOf_a49 (((2 : Int32) * x1_a49)).toNatClampNeg (mo_newFrom_7 (x1_a49).toNatClampNeg)) ((((2 : Int32) * x1_a49) + (1 : Int32))).toNatClampNeg (mo_newTo_8 (x1_a49).toNatClampNeg)) (upd mo_toOf_a49 (((2 : Int32) * x1_a49)).toNatClampNeg (mo_newTo_8 (x1_a49).toNatClampNeg)) mo_width mo_drawn mo_seed mo_bundleOf mo_netsRead mo_sent mo_passagesEver mo_astrayEver mo_loopsEver mo_newNodes_3 mo_newPairs_4 mo_due_5 mo_newOne_6 mo_newFrom_7 mo_newTo_8 mo_marks mo_drawing mo_leftOf mo_wayMany mo_wayAt mo_bitsNow mo_passages mo_astray mo_loops mo_steps mo_reached mo_others mo_h) H := hP
              have hD : va_D A (wdM cI cJ ad mo_pageLength mo_page mo_newNodes_3 ((2 : Int32) * mo_newPairs_4) (upd (upd mo_fromOf_a49 (((2 : Int32) * x1_a49)).toNatClampNeg (mo_newFrom_7 (x1_a49).toNatClampNeg)) ((((2 : Int32) * x1_a49) + (1 : Int32))).toNatClampNeg (mo_newTo_8 (x1_a49).toNatClampNeg)) (upd mo_toOf_a49 (((2 : Int32) * x1_a49)).toNatClampNeg (mo_newTo_8 (x1_a49).toNatClampNeg)) mo_width mo_drawn mo_seed mo_bundleOf mo_netsRead mo_sent mo_passagesEver mo_astrayEver mo_loopsEver mo_newNodes_3 mo_newPairs_4 mo_due_5 mo_newOne_6 mo_newFrom_7 mo_newTo_8 mo_marks mo_drawing mo_leftOf mo_wayMany mo_wayAt mo_bitsNow mo_passages mo_astray mo_loops mo_steps mo_reached mo_others mo_h) := hD
              refine lv_aload_n hx hb dX6_net_101 rfl (lv_at hl 0 rfl) ?_
              refine va_get (ci := 6) (v := .ref (ad 18)) (C := RX6) (T := TX6) (N := 34) hx hb hts hin_X6 hown hK hP 0 rfl rfl 5 (by decide) fl_16 (fun _ h9 => h9) rfl dX6_net_102 ?_
              refine lv_iconst (v := (2 : Int32)) hx hb dX6_net_105 (by decide) ?_
              refine lv_iload_n hx hb dX6_net_106 rfl (lv_at hl 1 rfl) ?_
              refine lv_imul hx hb dX6_net_107 ?_
              refine lv_iconst (v := (1 : Int32)) hx hb dX6_net_108 (by decide) ?_
              refine lv_iadd hx hb dX6_net_109 ?_
              refine lv_aload_n hx hb dX6_net_110 rfl (lv_at hl 0 rfl) ?_
              refine va_get (ci := 6) (v := .ref (ad 20)) (C := RX6) (T := TX6) (N := 34) hx hb hts hin_X6 hown hK hP 0 rfl rfl 19 (by decide) fl_32 (fun _ h9 => h9) rfl dX6_net_111 ?_
              refine lv_iload_n hx hb dX6_net_114 rfl (lv_at hl 1 rfl) ?_
              refine va_iald hx hb hK hP 5 0 rfl rfl g17 dX6_net_115 ?_
              refine va_iast hx hb hK hP hD hS 3 0 rfl rfl g22 dX6_net_116 (fun H locs hP hD hS => ?_)
              have hP : va_P D vwCl (wdM cI cJ ad mo_pageLength mo_page mo_newNodes_3 ((2 : Int32) * mo_newPairs_4) (upd (upd mo_fromOf_a49 (((2 : Int32) * x1_a49)).toNatClampNeg (mo_newFrom_7 (x1_a49).toNatClampNeg)) ((((2 : Int32) * x1_a49) + (1 : Int32))).toNatClampNeg (mo_newTo_8 (x1_a49).toNatClampNeg)) (upd (upd mo_toOf_a49 (((2 : Int32) * x1_a49)).toNatClampNeg (mo_newTo_8 (x1_a49).toNatClampNeg)) ((((2 : Int32) * x1_a49) + (1 : Int32))).toNatClampNeg (mo_newFrom_7 (x1_a49).toNatClampNeg)) mo_width mo_drawn mo_seed mo_bundleOf mo_netsRead mo_sent mo_passagesEver mo_astrayEver mo_loopsEver mo_newNodes_3 mo_newPairs_4 mo_due_5 mo_newOne_6 mo_newFrom_7 mo_newTo_8 mo_marks mo_drawing mo_leftOf mo_wayMany mo_wayAt mo_bitsNow mo_passages mo_astray mo_loops mo_steps mo_reached mo_others mo_h) H := hP
              have hD : va_D A (wdM cI cJ ad mo_pageLength mo_page mo_newNodes_3 ((2 : Int32) * mo_newPairs_4) (upd (upd mo_fromOf_a49 (((2 : Int32) * x1_a49)).toNatClampNeg (mo_newFrom_7 (x1_a49).toNatClampNeg)) ((((2 : Int32) * x1_a49) + (1 : Int32))).toNatClampNeg (mo_newTo_8 (x1_a49).toNatClampNeg)) (upd (upd mo_toOf_a49 (((2 : Int32) * x1_a49)).toNatClampNeg (mo_newTo_8 (x1_a49).toNatClampNeg)) ((((2 : Int32) * x1_a49) + (1 : Int32))).toNatClampNeg (mo_newFrom_7 (x1_a49).toNatClampNeg)) mo_width mo_drawn mo_seed mo_bundleOf mo_netsRead mo_sent mo_passagesEver mo_astrayEver mo_loopsEver mo_newNodes_3 mo_newPairs_4 mo_due_5 mo_newOne_6 mo_newFrom_7 mo_newTo_8 mo_marks mo_drawing mo_leftOf mo_wayMany mo_wayAt mo_bitsNow mo_passages mo_astray mo_loops mo_steps mo_reached mo_others mo_h) := hD
              refine lv_iinc (v := (x1_a49 + (1 : Int32))) (lv' := [(1, .int (x1_a49 + (1 : Int32))), (0, .ref (ad 15))]) hx hb dX6_net_117 hl (k := 1) rfl rfl (by decide) rfl (fun ls hl => ?_)
              refine lv_goto (tgt := 49) hx hb dX6_net_120 (by decide) ?_
              exact ih (upd (upd mo_fromOf_a49 (((2 : Int32) * x1_a49)).toNatClampNeg (mo_newFrom_7 (x1_a49).toNatClampNeg)) ((((2 : Int32) * x1_a49) + (1 : Int32))).toNatClampNeg (mo_newTo_8 (x1_a49).toNatClampNeg)) (upd (upd mo_toOf_a49 (((2 : Int32) * x1_a49)).toNatClampNeg (mo_newTo_8 (x1_a49).toNatClampNeg)) ((((2 : Int32) * x1_a49) + (1 : Int32))).toNatClampNeg (mo_newFrom_7 (x1_a49).toNatClampNeg)) (x1_a49 + (1 : Int32)) _ _ hf kk _ _ _ hP hD hS (lv_sub hl [1, 0] rfl)
        obtain ⟨⟨mo_fromOf_o13, mo_toOf_o14⟩, h25, hf⟩ := oo_b hf
        try dsimp only at hf
        refine lp15  100 mo_fromOf mo_toOf (0 : Int32) mo_fromOf_o13 mo_toOf_o14 h25 (fun H locs ls hP hD hS hl => ?_) _ _ _ hP hD hS (lv_sub hl [1, 0] rfl)
        refine lv_iconst (v := (0 : Int32)) hx hb dX6_net_123 (by decide) ?_
        refine lv_istore_n (lv' := [(1, .int (0 : Int32)), (0, .ref (ad 15))]) hx hb dX6_net_124 rfl hl (by decide) rfl (fun ls hl => ?_)
        have lp27 : ∀ (n : Nat) (mo_bundleOf_a125 : Nat → Int32) (x1_a125 : Int32) (mo_bundleOf_o26 : Nat → Int32), f_X6_net_L125  n mo_bundleOf_a125 x1_a125 = some mo_bundleOf_o26 → (∀ (H : Heap) (locs : List Loc) (ls : Array Slot), va_P D vwCl (wdM cI cJ ad mo_pageLength mo_page mo_newNodes_3 ((2 : Int32) * mo_newPairs_4) mo_fromOf_o13 mo_toOf_o14 mo_width mo_drawn mo_seed mo_bundleOf_o26 mo_netsRead mo_sent mo_passagesEver mo_astrayEver mo_loopsEver mo_newNodes_3 mo_newPairs_4 mo_due_5 mo_newOne_6 mo_newFrom_7 mo_newTo_8 mo_marks mo_drawing mo_leftOf mo_wayMany mo_wayAt mo_bitsNow mo_passages mo_astray mo_loops mo_steps mo_reached mo_others mo_h) H → va_D A (wdM cI cJ ad mo_pageLength mo_page mo_newNodes_3 ((2 : Int32) * mo_newPairs_4) mo_fromOf_o13 mo_toOf_o14 mo_width mo_drawn mo_seed mo_bundleOf_o26 mo_netsRead mo_sent mo_passagesEver mo_astrayEver mo_loopsEver mo_newNodes_3 mo_newPairs_4 mo_due_5 mo_newOne_6 mo_newFrom_7 mo_newTo_8 mo_marks mo_drawing mo_leftOf mo_wayMany mo_wayAt mo_bitsNow mo_passages mo_astray mo_loops mo_steps mo_reached mo_others mo_h) → va_S A s.heap H locs → lv_has ls 2 [(0, .ref (ad 15))] → W p l e rm_X6_net s m args below meth c H locs 0 0 Q (F0 m 143 ls [])) → ∀ (H : Heap) (locs : List Loc) (ls : Array Slot), va_P D vwCl (wdM cI cJ ad mo_pageLength mo_page mo_newNodes_3 ((2 : Int32) * mo_newPairs_4) mo_fromOf_o13 mo_toOf_o14 mo_width mo_drawn mo_seed mo_bundleOf_a125 mo_netsRead mo_sent mo_passagesEver mo_astrayEver mo_loopsEver mo_newNodes_3 mo_newPairs_4 mo_due_5 mo_newOne_6 mo_newFrom_7 mo_newTo_8 mo_marks mo_drawing mo_leftOf mo_wayMany mo_wayAt mo_bitsNow mo_passages mo_astray mo_loops mo_steps mo_reached mo_others mo_h) H → va_D A (wdM cI cJ ad mo_pageLength mo_page mo_newNodes_3 ((2 : Int32) * mo_newPairs_4) mo_fromOf_o13 mo_toOf_o14 mo_width mo_drawn mo_seed mo_bundleOf_a125 mo_netsRead mo_sent mo_passagesEver mo_astrayEver mo_loopsEver mo_newNodes_3 mo_newPairs_4 mo_due_5 mo_newOne_6 mo_newFrom_7 mo_newTo_8 mo_marks mo_drawing mo_leftOf mo_wayMany mo_wayAt mo_bitsNow mo_passages mo_astray mo_loops mo_steps mo_reached mo_others mo_h) → va_S A s.heap H locs → lv_has ls 2 [(0, .ref (ad 15)), (1, .int x1_a125)] → W p l e rm_X6_net s m args below meth c H locs 0 0 Q (F0 m 125 ls []) := by
          intro n
          induction n with
          | zero =>
            intro mo_bundleOf_a125 x1_a125 mo_bundleOf_o26 h0
            exact oo_n h0
          | succ n ih =>
            intro mo_bundleOf_a125 x1_a125 mo_bundleOf_o26 hf kk H locs ls hP hD hS hl
            rw [f_X6_net_L125_s] at hf
            refine lv_iload_n hx hb dX6_net_125 rfl (lv_at hl 1 rfl) ?_
            refine lv_iconst (v := (4 : Int32)) hx hb dX6_net_126 (by decide) ?_
            refine lv_icmp_ge (tgt := 143) hx hb dX6_net_127 (by decide) (fun c28 => ?_) (fun c28 => ?_)
            · have hf := oo_t hf c28
              cases hf
              exact kk _ _ _ hP hD hS (lv_sub hl [0] rfl)
            · have hf := oo_f hf c28
              refine lv_aload_n hx hb dX6_net_130 rfl (lv_at hl 0 rfl) ?_
              refine va_get (ci := 6) (v := .ref (ad 19)) (C := RX6) (T := TX6) (N := 34) hx hb hts hin_X6 hown hK hP 0 rfl rfl 9 (by decide) fl_29 (fun _ h9 => h9) rfl dX6_net_131 ?_
              refine lv_iload_n hx hb dX6_net_134 rfl (lv_at hl 1 rfl) ?_
              refine lv_iconst (v := (0 : Int32)) hx hb dX6_net_135 (by decide) ?_
              obtain ⟨g29, hf⟩ := oo_g hf
              refine va_iast hx hb hK hP hD hS 4 0 rfl rfl g29 dX6_net_136 (fun H locs hP hD hS => ?_)
              have hP : va_P D vwCl (wdM cI cJ ad mo_pageLength mo_page mo_newNodes_3 ((2 : Int32) * mo_newPairs_4) mo_fromOf_o13 mo_toOf_o14 mo_width mo_drawn mo_seed (upd mo_bundleOf_a125 (x1_a125).toNatClampNeg (0 : Int32)) mo_netsRead mo_sent mo_passagesEver mo_astrayEver mo_loopsEver mo_newNodes_3 mo_newPairs_4 mo_due_5 mo_newOne_6 mo_newFrom_7 mo_newTo_8 mo_marks mo_drawing mo_leftOf mo_wayMany mo_wayAt mo_bitsNow mo_passages mo_astray mo_loops mo_steps mo_reached mo_others mo_h) H := hP
              have hD : va_D A (wdM cI cJ ad mo_pageLength mo_page mo_newNodes_3 ((2 : Int32) * mo_newPairs_4) mo_fromOf_o13 mo_toOf_o14 mo_width mo_drawn mo_seed (upd mo_bundleOf_a125 (x1_a125).toNatClampNeg (0 : Int32)) mo_netsRead mo_sent mo_passagesEver mo_astrayEver mo_loopsEver mo_newNodes_3 mo_newPairs_4 mo_due_5 mo_newOne_6 mo_newFrom_7 mo_newTo_8 mo_marks mo_drawing mo_leftOf mo_wayMany mo_wayAt mo_bitsNow mo_passages mo_astray mo_loops mo_steps mo_reached mo_others mo_h) := hD
              refine lv_iinc (v := (x1_a125 + (1 : Int32))) (lv' := [(1, .int (x1_a125 + (1 : Int32))), (0, .ref (ad 15))]) hx hb dX6_net_137 hl (k := 1) rfl rfl (by decide) rfl (fun ls hl => ?_)
              refine lv_goto (tgt := 125) hx hb dX6_net_140 (by decide) ?_
              exact ih (upd mo_bundleOf_a125 (x1_a125).toNatClampNeg (0 : Int32)) (x1_a125 + (1 : Int32)) _ hf kk _ _ _ hP hD hS (lv_sub hl [1, 0] rfl)
        obtain ⟨mo_bundleOf_o26, h30, hf⟩ := oo_b hf
        try dsimp only at hf
        refine lp27  100 mo_bundleOf (0 : Int32) mo_bundleOf_o26 h30 (fun H locs ls hP hD hS hl => ?_) _ _ _ hP hD hS (lv_sub hl [1, 0] rfl)
        refine lv_aload_n hx hb dX6_net_143 rfl (lv_at hl 0 rfl) ?_
        refine lv_dup hx hb dX6_net_144 rfl ?_
        refine va_get (ci := 6) (v := .int mo_netsRead) (C := RX6) (T := TX6) (N := 34) hx hb hts hin_X6 hown hK hP 0 rfl rfl 10 (by decide) fl_88 (fun _ h9 => h9) rfl dX6_net_145 ?_
        refine lv_iconst (v := (1 : Int32)) hx hb dX6_net_148 (by decide) ?_
        refine lv_iadd hx hb dX6_net_149 ?_
        refine va_put (ci := 6) (v := .int (mo_netsRead + (1 : Int32))) (ty := .int) (C := RX6) (T := TX6) (N := 34) hx hb hts hin_X6 tyX6 tyX6_ok nmX6 hown hK hP hD hS 0 rfl rfl 10 (by decide) fl_88 (fun _ h9 => h9) rfl (by decide +kernel) rfl rfl (Nat.le_of_ble_eq_true rfl) dX6_net_150 (fun H locs hP hD hS => ?_)
        have hP : va_P D vwCl (wdM cI cJ ad mo_pageLength mo_page mo_newNodes_3 ((2 : Int32) * mo_newPairs_4) mo_fromOf_o13 mo_toOf_o14 mo_width mo_drawn mo_seed mo_bundleOf_o26 (mo_netsRead + (1 : Int32)) mo_sent mo_passagesEver mo_astrayEver mo_loopsEver mo_newNodes_3 mo_newPairs_4 mo_due_5 mo_newOne_6 mo_newFrom_7 mo_newTo_8 mo_marks mo_drawing mo_leftOf mo_wayMany mo_wayAt mo_bitsNow mo_passages mo_astray mo_loops mo_steps mo_reached mo_others mo_h) H := hP
        have hD : va_D A (wdM cI cJ ad mo_pageLength mo_page mo_newNodes_3 ((2 : Int32) * mo_newPairs_4) mo_fromOf_o13 mo_toOf_o14 mo_width mo_drawn mo_seed mo_bundleOf_o26 (mo_netsRead + (1 : Int32)) mo_sent mo_passagesEver mo_astrayEver mo_loopsEver mo_newNodes_3 mo_newPairs_4 mo_due_5 mo_newOne_6 mo_newFrom_7 mo_newTo_8 mo_marks mo_drawing mo_leftOf mo_wayMany mo_wayAt mo_bitsNow mo_passages mo_astray mo_loops mo_steps mo_reached mo_others mo_h) := hD
        refine lv_aload_n hx hb dX6_net_153 rfl (lv_at hl 0 rfl) ?_
        refine lv_iconst (v := (0 : Int32)) hx hb dX6_net_154 (by decide) ?_
        refine va_put (ci := 6) (v := .int (0 : Int32)) (ty := .int) (C := RX6) (T := TX6) (N := 34) hx hb hts hin_X6 tyX6 tyX6_ok nmX6 hown hK hP hD hS 0 rfl rfl 0 (by decide) fl_52 (fun _ h9 => h9) rfl (by decide +kernel) rfl rfl (Nat.le_of_ble_eq_true rfl) dX6_net_155 (fun H locs hP hD hS => ?_)
        have hP : va_P D vwCl (wdM cI cJ ad (0 : Int32) mo_page mo_newNodes_3 ((2 : Int32) * mo_newPairs_4) mo_fromOf_o13 mo_toOf_o14 mo_width mo_drawn mo_seed mo_bundleOf_o26 (mo_netsRead + (1 : Int32)) mo_sent mo_passagesEver mo_astrayEver mo_loopsEver mo_newNodes_3 mo_newPairs_4 mo_due_5 mo_newOne_6 mo_newFrom_7 mo_newTo_8 mo_marks mo_drawing mo_leftOf mo_wayMany mo_wayAt mo_bitsNow mo_passages mo_astray mo_loops mo_steps mo_reached mo_others mo_h) H := hP
        have hD : va_D A (wdM cI cJ ad (0 : Int32) mo_page mo_newNodes_3 ((2 : Int32) * mo_newPairs_4) mo_fromOf_o13 mo_toOf_o14 mo_width mo_drawn mo_seed mo_bundleOf_o26 (mo_netsRead + (1 : Int32)) mo_sent mo_passagesEver mo_astrayEver mo_loopsEver mo_newNodes_3 mo_newPairs_4 mo_due_5 mo_newOne_6 mo_newFrom_7 mo_newTo_8 mo_marks mo_drawing mo_leftOf mo_wayMany mo_wayAt mo_bitsNow mo_passages mo_astray mo_loops mo_steps mo_reached mo_others mo_h) := hD
        refine lv_aload_n hx hb dX6_net_158 rfl (lv_at hl 0 rfl) ?_
        obtain ⟨⟨mo_marks_32, mo_drawing_33⟩, h31, hf⟩ := oo_b hf
        try dsimp only at hf
        have F : Fr D A _ (wdM cI cJ ad (0 : Int32) mo_page mo_newNodes_3 ((2 : Int32) * mo_newPairs_4) mo_fromOf_o13 mo_toOf_o14 mo_width mo_drawn mo_seed mo_bundleOf_o26 (mo_netsRead + (1 : Int32)) mo_sent mo_passagesEver mo_astrayEver mo_loopsEver mo_newNodes_3 mo_newPairs_4 mo_due_5 mo_newOne_6 mo_newFrom_7 mo_newTo_8 mo_marks mo_drawing mo_leftOf mo_wayMany mo_wayAt mo_bitsNow mo_passages mo_astray mo_loops mo_steps mo_reached mo_others mo_h) (wdM cI cJ ad (0 : Int32) mo_page mo_newNodes_3 ((2 : Int32) * mo_newPairs_4) mo_fromOf_o13 mo_toOf_o14 mo_width mo_drawn mo_seed mo_bundleOf_o26 (mo_netsRead + (1 : Int32)) mo_sent mo_passagesEver mo_astrayEver mo_loopsEver mo_newNodes_3 mo_newPairs_4 mo_due_5 mo_newOne_6 mo_newFrom_7 mo_newTo_8 mo_marks_32 mo_drawing_33 mo_leftOf mo_wayMany mo_wayAt mo_bitsNow mo_passages mo_astray mo_loops mo_steps mo_reached mo_others mo_h) (wdM cI cJ ad (0 : Int32) mo_page mo_newNodes_3 ((2 : Int32) * mo_newPairs_4) mo_fromOf_o13 mo_toOf_o14 mo_width mo_drawn mo_seed mo_bundleOf_o26 (mo_netsRead + (1 : Int32)) mo_sent mo_passagesEver mo_astrayEver mo_loopsEver mo_newNodes_3 mo_newPairs_4 mo_due_5 mo_newOne_6 mo_newFrom_7 mo_newTo_8 mo_marks_32 mo_drawing_33 mo_leftOf mo_wayMany mo_wayAt mo_bitsNow mo_passages mo_astray mo_loops mo_steps mo_reached mo_others mo_h) := fr_self hP hD hS hA
        refine kV F hS (rV (q := (RX6, TX6, 34)) (As := []) (rest := []) ⟨hx, hb, hml, hown, hts⟩ hK hN F (c_X6_layMarks l D cI cJ ad _ (mo_pageLength := (0 : Int32)) (mo_page := mo_page) (mo_nodes := mo_newNodes_3) (mo_links := ((2 : Int32) * mo_newPairs_4)) (mo_fromOf := mo_fromOf_o13) (mo_toOf := mo_toOf_o14) (mo_width := mo_width) (mo_drawn := mo_drawn) (mo_seed := mo_seed) (mo_bundleOf := mo_bundleOf_o26) (mo_netsRead := (mo_netsRead + (1 : Int32))) (mo_sent := mo_sent) (mo_passagesEver := mo_passagesEver) (mo_astrayEver := mo_astrayEver) (mo_loopsEver := mo_loopsEver) (mo_newNodes := mo_newNodes_3) (mo_newPairs := mo_newPairs_4) (mo_due := mo_due_5) (mo_newOne := mo_newOne_6) (mo_newFrom := mo_newFrom_7) (mo_newTo := mo_newTo_8) (mo_marks := mo_marks) (mo_drawing := mo_drawing) (mo_leftOf := mo_leftOf) (mo_wayMany := mo_wayMany) (mo_wayAt := mo_wayAt) (mo_bitsNow := mo_bitsNow) (mo_passages := mo_passages) (mo_astray := mo_astray) (mo_loops := mo_loops) (mo_steps := mo_steps) (mo_reached := mo_reached) (mo_others := mo_others) (mo_h := mo_h)  (o_mo_marks := mo_marks_32) (o_mo_drawing := mo_drawing_33) h31) (cwV 0 hts gX6_net_X6_layMarks rfl rfl rfl (by decide +kernel) ⟨Nat.le_of_ble_eq_true rfl, Nat.le_of_ble_eq_true rfl⟩) (ci := 6) rfl rfl rfl hl.1 rfl (Nat.le_of_ble_eq_true rfl) dX6_net_159 ⟨Nat.zero_le _, Nat.zero_le _⟩) (fun H locs hP hD hS => ?_)
        refine lv_aload_n hx hb dX6_net_162 rfl (lv_at hl 0 rfl) ?_
        refine va_get (ci := 6) (v := .int ((2 : Int32) * mo_newPairs_4)) (C := RX6) (T := TX6) (N := 34) hx hb hts hin_X6 hown hK hP 0 rfl rfl 3 (by decide) fl_85 (fun _ h9 => h9) rfl dX6_net_163 ?_
        cases hf
        exact hret _ _ _ _ dX6_net_166 hP hD hS
      · have hf := oo_f hf c12
        refine lv_sipush (v := (-1003 : Int32)) hx hb dX6_net_25 (by decide) ?_
        cases hf
        exact hret _ _ _ _ dX6_net_28 hP hD hS
def f_X6_set (mo_links : Int32) (mo_width : Int32) (mo_drawn : Int32) (mo_seed : Int32) (mo_marks : Nat → Int64) (mo_drawing : Int64) (x1 : Int32) (x2 : Int32) : Option (Int32 × Int32 × Int32 × Int32 × (Nat → Int64) × Int64) :=
  Option.bind (α := Int32) (if x1 = (0 : Int32) then
      some (f_X6_within x2 (8 : Int32) (40 : Int32))
    else
      if x1 = (1 : Int32) then
        some (f_X6_within x2 (1 : Int32) (4 : Int32))
      else
        if x1 = (2 : Int32) then
          if x2 < (0 : Int32) then
            some (0 : Int32)
          else
            some (1 : Int32)
        else
          some (0 : Int32)) fun k_1 =>
  if k_1 = (0 : Int32) then
    some ((-1002 : Int32), mo_width, mo_drawn, mo_seed, mo_marks, mo_drawing)
  else
    Option.bind (f_X6_layMarks mo_links (if x1 = (0 : Int32) then x2 else mo_width) (if x1 = (1 : Int32) then x2 else mo_drawn) (if x1 = (2 : Int32) then x2 else mo_seed) mo_marks) fun (mo_marks_14, mo_drawing_15) =>
    some ((if x1 = (0 : Int32) then mo_width else (if x1 = (1 : Int32) then mo_drawn else mo_seed)), (if x1 = (0 : Int32) then x2 else mo_width), (if x1 = (1 : Int32) then x2 else mo_drawn), (if x1 = (2 : Int32) then x2 else mo_seed), mo_marks_14, mo_drawing_15)
abbrev rm_X6_set : Room := { frames := 2, cells := 0, slots := 0, locals := 46 }
set_option maxHeartbeats 4000000 in
set_option maxRecDepth 100000 in
theorem c_X6_set (l : Launch) (D : va_G) (cI cJ : ClassId) (ad : Nat → Nat) (sz : Nat) {mo_pageLength : Int32} {mo_page : Nat → Int32} {mo_nodes mo_links : Int32} {mo_fromOf mo_toOf : Nat → Int32} {mo_width mo_drawn mo_seed : Int32} {mo_bundleOf : Nat → Int32} {mo_netsRead mo_sent mo_passagesEver mo_astrayEver mo_loopsEver mo_newNodes mo_newPairs mo_due mo_newOne : Int32} {mo_newFrom mo_newTo : Nat → Int32} {mo_marks : Nat → Int64} {mo_drawing : Int64} {mo_leftOf : Nat → Int32} {mo_wayMany : Int32} {mo_wayAt : Nat → Int32} {mo_bitsNow : Int64} {mo_passages mo_astray mo_loops mo_steps mo_reached mo_others : Int32} {mo_h : Int64} (x1 : Int32) (x2 : Int32) {o_res : Int32} {o_mo_width : Int32} {o_mo_drawn : Int32} {o_mo_seed : Int32} {o_mo_marks : Nat → Int64} {o_mo_drawing : Int64} (hf : f_X6_set mo_links mo_width mo_drawn mo_seed mo_marks mo_drawing x1 x2 = some (o_res, o_mo_width, o_mo_drawn, o_mo_seed, o_mo_marks, o_mo_drawing)) : CtI l yX6_set wsX6_set rm_X6_set D cI cJ [.ref (ad 15), .int x1, .int x2] (wdM cI cJ ad mo_pageLength mo_page mo_nodes mo_links mo_fromOf mo_toOf mo_width mo_drawn mo_seed mo_bundleOf mo_netsRead mo_sent mo_passagesEver mo_astrayEver mo_loopsEver mo_newNodes mo_newPairs mo_due mo_newOne mo_newFrom mo_newTo mo_marks mo_drawing mo_leftOf mo_wayMany mo_wayAt mo_bitsNow mo_passages mo_astray mo_loops mo_steps mo_reached mo_others mo_h) sz o_res (wdM cI cJ ad mo_pageLength mo_page mo_nodes mo_links mo_fromOf mo_toOf o_mo_width o_mo_drawn o_mo_seed mo_bundleOf mo_netsRead mo_sent mo_passagesEver mo_astrayEver mo_loopsEver mo_newNodes mo_newPairs mo_due mo_newOne mo_newFrom mo_newTo o_mo_marks o_mo_drawing mo_leftOf mo_wayMany mo_wayAt mo_bitsNow mo_passages mo_astray mo_loops mo_steps mo_reached mo_others mo_h) := by
  refine ctI_of (cc := cX6_set) (maxL := 5) (by decide) rfl (Nat.le_of_ble_eq_true rfl) ?_
  intro p e s m below meth c Q A hx hb hml hown hts hK hN hA hret ls hl hP hD hS
  obtain ⟨args, hargs⟩ : ∃ a : Array Value, a = [.ref (ad 15), .int x1, .int x2].toArray := ⟨_, rfl⟩
  rw [← hargs] at hts hret ⊢
  have hown : s.vm.findClass RX6 = some m.cls := hown
  have hl : lv_has ls 5 [(0, .ref (ad 15)), (1, .int x1), (2, .int x2)] := hl
  have hin_X6 : ∀ w ∈ wsX60, w ∈ wsX6_set := fun _ h => List.mem_cons_of_mem _ (List.mem_append_right _ h)
  have fl_19 : (Cond.fieldLink RX6 19 "FoldedWaysModel" "width" "I").before args s = true := hat hts 1 rfl
  have fl_23 : (Cond.fieldLink RX6 23 "FoldedWaysModel" "drawn" "I").before args s = true := hat hts 2 rfl
  have fl_26 : (Cond.fieldLink RX6 26 "FoldedWaysModel" "seed" "I").before args s = true := hat hts 3 rfl
  unfold f_X6_set at hf
  refine lv_iload_n hx hb dX6_set_0 rfl (lv_at hl 1 rfl) ?_
  obtain ⟨k_1, hj3, hf⟩ := oo_b hf
  try dsimp only at hf
  have kj2 : ∀ (H : Heap) (locs : List Loc) (ls : Array Slot), va_P D vwCl (wdM cI cJ ad mo_pageLength mo_page mo_nodes mo_links mo_fromOf mo_toOf mo_width mo_drawn mo_seed mo_bundleOf mo_netsRead mo_sent mo_passagesEver mo_astrayEver mo_loopsEver mo_newNodes mo_newPairs mo_due mo_newOne mo_newFrom mo_newTo mo_marks mo_drawing mo_leftOf mo_wayMany mo_wayAt mo_bitsNow mo_passages mo_astray mo_loops mo_steps mo_reached mo_others mo_h) H → va_D A (wdM cI cJ ad mo_pageLength mo_page mo_nodes mo_links mo_fromOf mo_toOf mo_width mo_drawn mo_seed mo_bundleOf mo_netsRead mo_sent mo_passagesEver mo_astrayEver mo_loopsEver mo_newNodes mo_newPairs mo_due mo_newOne mo_newFrom mo_newTo mo_marks mo_drawing mo_leftOf mo_wayMany mo_wayAt mo_bitsNow mo_passages mo_astray mo_loops mo_steps mo_reached mo_others mo_h) → va_S A s.heap H locs → lv_has ls 5 [(0, .ref (ad 15)), (1, .int x1), (2, .int x2)] → W p l e rm_X6_set s m args below meth c H locs 0 0 Q (F0 m 43 ls [.int k_1]) := by
    intro H locs ls hP hD hS hl
    refine lv_istore_n (lv' := [(3, .int k_1), (0, .ref (ad 15)), (1, .int x1), (2, .int x2)]) hx hb dX6_set_43 rfl hl (by decide) rfl (fun ls hl => ?_)
    refine lv_iload_n hx hb dX6_set_44 rfl (lv_at hl 0 rfl) ?_
    refine lv_if_ne (tgt := 52) hx hb dX6_set_45 (by decide) (fun c4 => ?_) (fun c4 => ?_)
    · have hf := oo_f hf c4
      refine lv_iload_n hx hb dX6_set_52 rfl (lv_at hl 2 rfl) ?_
      have kj6 : ∀ (k_5 : Int32), k_5 = (if x1 = (0 : Int32) then mo_width else (if x1 = (1 : Int32) then mo_drawn else mo_seed)) → ∀ (H : Heap) (locs : List Loc) (ls : Array Slot), va_P D vwCl (wdM cI cJ ad mo_pageLength mo_page mo_nodes mo_links mo_fromOf mo_toOf mo_width mo_drawn mo_seed mo_bundleOf mo_netsRead mo_sent mo_passagesEver mo_astrayEver mo_loopsEver mo_newNodes mo_newPairs mo_due mo_newOne mo_newFrom mo_newTo mo_marks mo_drawing mo_leftOf mo_wayMany mo_wayAt mo_bitsNow mo_passages mo_astray mo_loops mo_steps mo_reached mo_others mo_h) H → va_D A (wdM cI cJ ad mo_pageLength mo_page mo_nodes mo_links mo_fromOf mo_toOf mo_width mo_drawn mo_seed mo_bundleOf mo_netsRead mo_sent mo_passagesEver mo_astrayEver mo_loopsEver mo_newNodes mo_newPairs mo_due mo_newOne mo_newFrom mo_newTo mo_marks mo_drawing mo_leftOf mo_wayMany mo_wayAt mo_bitsNow mo_passages mo_astray mo_loops mo_steps mo_reached mo_others mo_h) → va_S A s.heap H locs → lv_has ls 5 [(0, .ref (ad 15)), (1, .int x1), (2, .int x2)] → W p l e rm_X6_set s m args below meth c H locs 0 0 Q (F0 m 79 ls [.int k_5]) := by
        intro k_5 ek_5
        subst ek_5
        intro H locs ls hP hD hS hl
        refine lv_istore (lv' := [(4, .int (if x1 = (0 : Int32) then mo_width else (if x1 = (1 : Int32) then mo_drawn else mo_seed))), (0, .ref (ad 15)), (1, .int x1), (2, .int x2)]) hx hb dX6_set_79 hl (by decide) rfl (fun ls hl => ?_)
        refine lv_aload_n hx hb dX6_set_81 rfl (lv_at hl 1 rfl) ?_
        refine lv_iload_n hx hb dX6_set_82 rfl (lv_at hl 2 rfl) ?_
        have kj8 : ∀ (k_7 : Int32), k_7 = (if x1 = (0 : Int32) then x2 else mo_width) → ∀ (H : Heap) (locs : List Loc) (ls : Array Slot), va_P D vwCl (wdM cI cJ ad mo_pageLength mo_page mo_nodes mo_links mo_fromOf mo_toOf mo_width mo_drawn mo_seed mo_bundleOf mo_netsRead mo_sent mo_passagesEver mo_astrayEver mo_loopsEver mo_newNodes mo_newPairs mo_due mo_newOne mo_newFrom mo_newTo mo_marks mo_drawing mo_leftOf mo_wayMany mo_wayAt mo_bitsNow mo_passages mo_astray mo_loops mo_steps mo_reached mo_others mo_h) H → va_D A (wdM cI cJ ad mo_pageLength mo_page mo_nodes mo_links mo_fromOf mo_toOf mo_width mo_drawn mo_seed mo_bundleOf mo_netsRead mo_sent mo_passagesEver mo_astrayEver mo_loopsEver mo_newNodes mo_newPairs mo_due mo_newOne mo_newFrom mo_newTo mo_marks mo_drawing mo_leftOf mo_wayMany mo_wayAt mo_bitsNow mo_passages mo_astray mo_loops mo_steps mo_reached mo_others mo_h) → va_S A s.heap H locs → lv_has ls 5 [(0, .ref (ad 15)), (1, .int x1), (2, .int x2), (4, .int (if x1 = (0 : Int32) then mo_width else (if x1 = (1 : Int32) then mo_drawn else mo_seed)))] → W p l e rm_X6_set s m args below meth c H locs 0 0 Q (F0 m 94 ls [.int k_7, .ref (ad 15)]) := by
          intro k_7 ek_7
          subst ek_7
          intro H locs ls hP hD hS hl
          refine va_put (ci := 6) (v := .int (if x1 = (0 : Int32) then x2 else mo_width)) (ty := .int) (C := RX6) (T := TX6) (N := 34) hx hb hts hin_X6 tyX6 tyX6_ok nmX6 hown hK hP hD hS 0 rfl rfl 6 (by decide) fl_19 (fun _ h9 => h9) rfl (by decide +kernel) rfl rfl (Nat.le_of_ble_eq_true rfl) dX6_set_94 (fun H locs hP hD hS => ?_)
          have hP : va_P D vwCl (wdM cI cJ ad mo_pageLength mo_page mo_nodes mo_links mo_fromOf mo_toOf (if x1 = (0 : Int32) then x2 else mo_width) mo_drawn mo_seed mo_bundleOf mo_netsRead mo_sent mo_passagesEver mo_astrayEver mo_loopsEver mo_newNodes mo_newPairs mo_due mo_newOne mo_newFrom mo_newTo mo_marks mo_drawing mo_leftOf mo_wayMany mo_wayAt mo_bitsNow mo_passages mo_astray mo_loops mo_steps mo_reached mo_others mo_h) H := hP
          have hD : va_D A (wdM cI cJ ad mo_pageLength mo_page mo_nodes mo_links mo_fromOf mo_toOf (if x1 = (0 : Int32) then x2 else mo_width) mo_drawn mo_seed mo_bundleOf mo_netsRead mo_sent mo_passagesEver mo_astrayEver mo_loopsEver mo_newNodes mo_newPairs mo_due mo_newOne mo_newFrom mo_newTo mo_marks mo_drawing mo_leftOf mo_wayMany mo_wayAt mo_bitsNow mo_passages mo_astray mo_loops mo_steps mo_reached mo_others mo_h) := hD
          refine lv_aload_n hx hb dX6_set_97 rfl (lv_at hl 0 rfl) ?_
          refine lv_iload_n hx hb dX6_set_98 rfl (lv_at hl 1 rfl) ?_
          refine lv_iconst (v := (1 : Int32)) hx hb dX6_set_99 (by decide) ?_
          have kj10 : ∀ (k_9 : Int32), k_9 = (if x1 = (1 : Int32) then x2 else mo_drawn) → ∀ (H : Heap) (locs : List Loc) (ls : Array Slot), va_P D vwCl (wdM cI cJ ad mo_pageLength mo_page mo_nodes mo_links mo_fromOf mo_toOf (if x1 = (0 : Int32) then x2 else mo_width) mo_drawn mo_seed mo_bundleOf mo_netsRead mo_sent mo_passagesEver mo_astrayEver mo_loopsEver mo_newNodes mo_newPairs mo_due mo_newOne mo_newFrom mo_newTo mo_marks mo_drawing mo_leftOf mo_wayMany mo_wayAt mo_bitsNow mo_passages mo_astray mo_loops mo_steps mo_reached mo_others mo_h) H → va_D A (wdM cI cJ ad mo_pageLength mo_page mo_nodes mo_links mo_fromOf mo_toOf (if x1 = (0 : Int32) then x2 else mo_width) mo_drawn mo_seed mo_bundleOf mo_netsRead mo_sent mo_passagesEver mo_astrayEver mo_loopsEver mo_newNodes mo_newPairs mo_due mo_newOne mo_newFrom mo_newTo mo_marks mo_drawing mo_leftOf mo_wayMany mo_wayAt mo_bitsNow mo_passages mo_astray mo_loops mo_steps mo_reached mo_others mo_h) → va_S A s.heap H locs → lv_has ls 5 [(0, .ref (ad 15)), (1, .int x1), (2, .int x2), (4, .int (if x1 = (0 : Int32) then mo_width else (if x1 = (1 : Int32) then mo_drawn else mo_seed)))] → W p l e rm_X6_set s m args below meth c H locs 0 0 Q (F0 m 111 ls [.int k_9, .ref (ad 15)]) := by
            intro k_9 ek_9
            subst ek_9
            intro H locs ls hP hD hS hl
            refine va_put (ci := 6) (v := .int (if x1 = (1 : Int32) then x2 else mo_drawn)) (ty := .int) (C := RX6) (T := TX6) (N := 34) hx hb hts hin_X6 tyX6 tyX6_ok nmX6 hown hK hP hD hS 0 rfl rfl 7 (by decide) fl_23 (fun _ h9 => h9) rfl (by decide +kernel) rfl rfl (Nat.le_of_ble_eq_true rfl) dX6_set_111 (fun H locs hP hD hS => ?_)
            have hP : va_P D vwCl (wdM cI cJ ad mo_pageLength mo_page mo_nodes mo_links mo_fromOf mo_toOf (if x1 = (0 : Int32) then x2 else mo_width) (if x1 = (1 : Int32) then x2 else mo_drawn) mo_seed mo_bundleOf mo_netsRead mo_sent mo_passagesEver mo_astrayEver mo_loopsEver mo_newNodes mo_newPairs mo_due mo_newOne mo_newFrom mo_newTo mo_marks mo_drawing mo_leftOf mo_wayMany mo_wayAt mo_bitsNow mo_passages mo_astray mo_loops mo_steps mo_reached mo_others mo_h) H := hP
            have hD : va_D A (wdM cI cJ ad mo_pageLength mo_page mo_nodes mo_links mo_fromOf mo_toOf (if x1 = (0 : Int32) then x2 else mo_width) (if x1 = (1 : Int32) then x2 else mo_drawn) mo_seed mo_bundleOf mo_netsRead mo_sent mo_passagesEver mo_astrayEver mo_loopsEver mo_newNodes mo_newPairs mo_due mo_newOne mo_newFrom mo_newTo mo_marks mo_drawing mo_leftOf mo_wayMany mo_wayAt mo_bitsNow mo_passages mo_astray mo_loops mo_steps mo_reached mo_others mo_h) := hD
            refine lv_aload_n hx hb dX6_set_114 rfl (lv_at hl 0 rfl) ?_
            refine lv_iload_n hx hb dX6_set_115 rfl (lv_at hl 1 rfl) ?_
            refine lv_iconst (v := (2 : Int32)) hx hb dX6_set_116 (by decide) ?_
            have kj12 : ∀ (k_11 : Int32), k_11 = (if x1 = (2 : Int32) then x2 else mo_seed) → ∀ (H : Heap) (locs : List Loc) (ls : Array Slot), va_P D vwCl (wdM cI cJ ad mo_pageLength mo_page mo_nodes mo_links mo_fromOf mo_toOf (if x1 = (0 : Int32) then x2 else mo_width) (if x1 = (1 : Int32) then x2 else mo_drawn) mo_seed mo_bundleOf mo_netsRead mo_sent mo_passagesEver mo_astrayEver mo_loopsEver mo_newNodes mo_newPairs mo_due mo_newOne mo_newFrom mo_newTo mo_marks mo_drawing mo_leftOf mo_wayMany mo_wayAt mo_bitsNow mo_passages mo_astray mo_loops mo_steps mo_reached mo_others mo_h) H → va_D A (wdM cI cJ ad mo_pageLength mo_page mo_nodes mo_links mo_fromOf mo_toOf (if x1 = (0 : Int32) then x2 else mo_width) (if x1 = (1 : Int32) then x2 else mo_drawn) mo_seed mo_bundleOf mo_netsRead mo_sent mo_passagesEver mo_astrayEver mo_loopsEver mo_newNodes mo_newPairs mo_due mo_newOne mo_newFrom mo_newTo mo_marks mo_drawing mo_leftOf mo_wayMany mo_wayAt mo_bitsNow mo_passages mo_astray mo_loops mo_steps mo_reached mo_others mo_h) → va_S A s.heap H locs → lv_has ls 5 [(0, .ref (ad 15)), (4, .int (if x1 = (0 : Int32) then mo_width else (if x1 = (1 : Int32) then mo_drawn else mo_seed)))] → W p l e rm_X6_set s m args below meth c H locs 0 0 Q (F0 m 128 ls [.int k_11, .ref (ad 15)]) := by
              intro k_11 ek_11
              subst ek_11
              intro H locs ls hP hD hS hl
              refine va_put (ci := 6) (v := .int (if x1 = (2 : Int32) then x2 else mo_seed)) (ty := .int) (C := RX6) (T := TX6) (N := 34) hx hb hts hin_X6 tyX6 tyX6_ok nmX6 hown hK hP hD hS 0 rfl rfl 8 (by decide) fl_26 (fun _ h9 => h9) rfl (by decide +kernel) rfl rfl (Nat.le_of_ble_eq_true rfl) dX6_set_128 (fun H locs hP hD hS => ?_)
              have hP : va_P D vwCl (wdM cI cJ ad mo_pageLength mo_page mo_nodes mo_links mo_fromOf mo_toOf (if x1 = (0 : Int32) then x2 else mo_width) (if x1 = (1 : Int32) then x2 else mo_drawn) (if x1 = (2 : Int32) then x2 else mo_seed) mo_bundleOf mo_netsRead mo_sent mo_passagesEver mo_astrayEver mo_loopsEver mo_newNodes mo_newPairs mo_due mo_newOne mo_newFrom mo_newTo mo_marks mo_drawing mo_leftOf mo_wayMany mo_wayAt mo_bitsNow mo_passages mo_astray mo_loops mo_steps mo_reached mo_others mo_h) H := hP
              have hD : va_D A (wdM cI cJ ad mo_pageLength mo_page mo_nodes mo_links mo_fromOf mo_toOf (if x1 = (0 : Int32) then x2 else mo_width) (if x1 = (1 : Int32) then x2 else mo_drawn) (if x1 = (2 : Int32) then x2 else mo_seed) mo_bundleOf mo_netsRead mo_sent mo_passagesEver mo_astrayEver mo_loopsEver mo_newNodes mo_newPairs mo_due mo_newOne mo_newFrom mo_newTo mo_marks mo_drawing mo_leftOf mo_wayMany mo_wayAt mo_bitsNow mo_passages mo_astray mo_loops mo_steps mo_reached mo_others mo_h) := hD
              refine lv_aload_n hx hb dX6_set_131 rfl (lv_at hl 0 rfl) ?_
              obtain ⟨⟨mo_marks_14, mo_drawing_15⟩, h13, hf⟩ := oo_b hf
              try dsimp only at hf
              have F : Fr D A _ (wdM cI cJ ad mo_pageLength mo_page mo_nodes mo_links mo_fromOf mo_toOf (if x1 = (0 : Int32) then x2 else mo_width) (if x1 = (1 : Int32) then x2 else mo_drawn) (if x1 = (2 : Int32) then x2 else mo_seed) mo_bundleOf mo_netsRead mo_sent mo_passagesEver mo_astrayEver mo_loopsEver mo_newNodes mo_newPairs mo_due mo_newOne mo_newFrom mo_newTo mo_marks mo_drawing mo_leftOf mo_wayMany mo_wayAt mo_bitsNow mo_passages mo_astray mo_loops mo_steps mo_reached mo_others mo_h) (wdM cI cJ ad mo_pageLength mo_page mo_nodes mo_links mo_fromOf mo_toOf (if x1 = (0 : Int32) then x2 else mo_width) (if x1 = (1 : Int32) then x2 else mo_drawn) (if x1 = (2 : Int32) then x2 else mo_seed) mo_bundleOf mo_netsRead mo_sent mo_passagesEver mo_astrayEver mo_loopsEver mo_newNodes mo_newPairs mo_due mo_newOne mo_newFrom mo_newTo mo_marks_14 mo_drawing_15 mo_leftOf mo_wayMany mo_wayAt mo_bitsNow mo_passages mo_astray mo_loops mo_steps mo_reached mo_others mo_h) (wdM cI cJ ad mo_pageLength mo_page mo_nodes mo_links mo_fromOf mo_toOf (if x1 = (0 : Int32) then x2 else mo_width) (if x1 = (1 : Int32) then x2 else mo_drawn) (if x1 = (2 : Int32) then x2 else mo_seed) mo_bundleOf mo_netsRead mo_sent mo_passagesEver mo_astrayEver mo_loopsEver mo_newNodes mo_newPairs mo_due mo_newOne mo_newFrom mo_newTo mo_marks_14 mo_drawing_15 mo_leftOf mo_wayMany mo_wayAt mo_bitsNow mo_passages mo_astray mo_loops mo_steps mo_reached mo_others mo_h) := fr_self hP hD hS hA
              refine kV F hS (rV (q := (RX6, TX6, 34)) (As := []) (rest := []) ⟨hx, hb, hml, hown, hts⟩ hK hN F (c_X6_layMarks l D cI cJ ad _ (mo_pageLength := mo_pageLength) (mo_page := mo_page) (mo_nodes := mo_nodes) (mo_links := mo_links) (mo_fromOf := mo_fromOf) (mo_toOf := mo_toOf) (mo_width := (if x1 = (0 : Int32) then x2 else mo_width)) (mo_drawn := (if x1 = (1 : Int32) then x2 else mo_drawn)) (mo_seed := (if x1 = (2 : Int32) then x2 else mo_seed)) (mo_bundleOf := mo_bundleOf) (mo_netsRead := mo_netsRead) (mo_sent := mo_sent) (mo_passagesEver := mo_passagesEver) (mo_astrayEver := mo_astrayEver) (mo_loopsEver := mo_loopsEver) (mo_newNodes := mo_newNodes) (mo_newPairs := mo_newPairs) (mo_due := mo_due) (mo_newOne := mo_newOne) (mo_newFrom := mo_newFrom) (mo_newTo := mo_newTo) (mo_marks := mo_marks) (mo_drawing := mo_drawing) (mo_leftOf := mo_leftOf) (mo_wayMany := mo_wayMany) (mo_wayAt := mo_wayAt) (mo_bitsNow := mo_bitsNow) (mo_passages := mo_passages) (mo_astray := mo_astray) (mo_loops := mo_loops) (mo_steps := mo_steps) (mo_reached := mo_reached) (mo_others := mo_others) (mo_h := mo_h)  (o_mo_marks := mo_marks_14) (o_mo_drawing := mo_drawing_15) h13) (cwV 0 hts gX6_set_X6_layMarks rfl rfl rfl (by decide +kernel) ⟨Nat.le_of_ble_eq_true rfl, Nat.le_of_ble_eq_true rfl⟩) (ci := 6) rfl rfl rfl hl.1 rfl (Nat.le_of_ble_eq_true rfl) dX6_set_132 ⟨Nat.zero_le _, Nat.zero_le _⟩) (fun H locs hP hD hS => ?_)
              refine lv_iload hx hb dX6_set_135 (lv_at hl 1 rfl) ?_
              cases hf
              exact hret _ _ _ _ dX6_set_137 hP hD hS
            refine lv_icmp_ne (tgt := 124) hx hb dX6_set_117 (by decide) (fun c17 => ?_) (fun c17 => ?_)
            · refine lv_aload_n hx hb dX6_set_124 rfl (lv_at hl 0 rfl) ?_
              refine va_get (ci := 6) (v := .int mo_seed) (C := RX6) (T := TX6) (N := 34) hx hb hts hin_X6 hown hK hP 0 rfl rfl 8 (by decide) fl_26 (fun _ h9 => h9) rfl dX6_set_125 ?_
              exact kj12 mo_seed (if_neg c17).symm _ _ _ hP hD hS (lv_sub hl [0, 3] rfl)
            · refine lv_iload_n hx hb dX6_set_120 rfl (lv_at hl 2 rfl) ?_
              refine lv_goto (tgt := 128) hx hb dX6_set_121 (by decide) ?_
              exact kj12 x2 (if_pos c17).symm _ _ _ hP hD hS (lv_sub hl [0, 3] rfl)
          refine lv_icmp_ne (tgt := 107) hx hb dX6_set_100 (by decide) (fun c18 => ?_) (fun c18 => ?_)
          · refine lv_aload_n hx hb dX6_set_107 rfl (lv_at hl 0 rfl) ?_
            refine va_get (ci := 6) (v := .int mo_drawn) (C := RX6) (T := TX6) (N := 34) hx hb hts hin_X6 hown hK hP 0 rfl rfl 7 (by decide) fl_23 (fun _ h9 => h9) rfl dX6_set_108 ?_
            exact kj10 mo_drawn (if_neg c18).symm _ _ _ hP hD hS (lv_sub hl [0, 1, 2, 3] rfl)
          · refine lv_iload_n hx hb dX6_set_103 rfl (lv_at hl 2 rfl) ?_
            refine lv_goto (tgt := 111) hx hb dX6_set_104 (by decide) ?_
            exact kj10 x2 (if_pos c18).symm _ _ _ hP hD hS (lv_sub hl [0, 1, 2, 3] rfl)
        refine lv_if_ne (tgt := 90) hx hb dX6_set_83 (by decide) (fun c19 => ?_) (fun c19 => ?_)
        · refine lv_aload_n hx hb dX6_set_90 rfl (lv_at hl 1 rfl) ?_
          refine va_get (ci := 6) (v := .int mo_width) (C := RX6) (T := TX6) (N := 34) hx hb hts hin_X6 hown hK hP 0 rfl rfl 6 (by decide) fl_19 (fun _ h9 => h9) rfl dX6_set_91 ?_
          exact kj8 mo_width (if_neg c19).symm _ _ _ hP hD hS (lv_sub hl [1, 2, 3, 0] rfl)
        · refine lv_iload_n hx hb dX6_set_86 rfl (lv_at hl 3 rfl) ?_
          refine lv_goto (tgt := 94) hx hb dX6_set_87 (by decide) ?_
          exact kj8 x2 (if_pos c19).symm _ _ _ hP hD hS (lv_sub hl [1, 2, 3, 0] rfl)
      refine lv_if_ne (tgt := 63) hx hb dX6_set_53 (by decide) (fun c20 => ?_) (fun c20 => ?_)
      · refine lv_iload_n hx hb dX6_set_63 rfl (lv_at hl 2 rfl) ?_
        refine lv_iconst (v := (1 : Int32)) hx hb dX6_set_64 (by decide) ?_
        refine lv_icmp_ne (tgt := 75) hx hb dX6_set_65 (by decide) (fun c21 => ?_) (fun c21 => ?_)
        · refine lv_aload_n hx hb dX6_set_75 rfl (lv_at hl 1 rfl) ?_
          refine va_get (ci := 6) (v := .int mo_seed) (C := RX6) (T := TX6) (N := 34) hx hb hts hin_X6 hown hK hP 0 rfl rfl 8 (by decide) fl_26 (fun _ h9 => h9) rfl dX6_set_76 ?_
          exact kj6 mo_seed ((if_neg c20).trans (if_neg c21)).symm _ _ _ hP hD hS (lv_sub hl [1, 2, 3] rfl)
        · refine lv_aload_n hx hb dX6_set_68 rfl (lv_at hl 1 rfl) ?_
          refine va_get (ci := 6) (v := .int mo_drawn) (C := RX6) (T := TX6) (N := 34) hx hb hts hin_X6 hown hK hP 0 rfl rfl 7 (by decide) fl_23 (fun _ h9 => h9) rfl dX6_set_69 ?_
          refine lv_goto (tgt := 79) hx hb dX6_set_72 (by decide) ?_
          exact kj6 mo_drawn ((if_neg c20).trans (if_pos c21)).symm _ _ _ hP hD hS (lv_sub hl [1, 2, 3] rfl)
      · refine lv_aload_n hx hb dX6_set_56 rfl (lv_at hl 1 rfl) ?_
        refine va_get (ci := 6) (v := .int mo_width) (C := RX6) (T := TX6) (N := 34) hx hb hts hin_X6 hown hK hP 0 rfl rfl 6 (by decide) fl_19 (fun _ h9 => h9) rfl dX6_set_57 ?_
        refine lv_goto (tgt := 79) hx hb dX6_set_60 (by decide) ?_
        exact kj6 mo_width (if_pos c20).symm _ _ _ hP hD hS (lv_sub hl [1, 2, 3] rfl)
    · have hf := oo_t hf c4
      refine lv_sipush (v := (-1002 : Int32)) hx hb dX6_set_48 (by decide) ?_
      cases hf
      exact hret _ _ _ _ dX6_set_51 hP hD hS
  clear hf
  have hf := hj3
  clear hj3
  refine lv_if_ne (tgt := 15) hx hb dX6_set_1 (by decide) (fun c22 => ?_) (fun c22 => ?_)
  · have hf := oo_f hf c22
    refine lv_iload_n hx hb dX6_set_15 rfl (lv_at hl 1 rfl) ?_
    refine lv_iconst (v := (1 : Int32)) hx hb dX6_set_16 (by decide) ?_
    refine lv_icmp_ne (tgt := 29) hx hb dX6_set_17 (by decide) (fun c23 => ?_) (fun c23 => ?_)
    · have hf := oo_f hf c23
      refine lv_iload_n hx hb dX6_set_29 rfl (lv_at hl 1 rfl) ?_
      refine lv_iconst (v := (2 : Int32)) hx hb dX6_set_30 (by decide) ?_
      refine lv_icmp_ne (tgt := 42) hx hb dX6_set_31 (by decide) (fun c24 => ?_) (fun c24 => ?_)
      · have hf := oo_f hf c24
        refine lv_iconst (v := (0 : Int32)) hx hb dX6_set_42 (by decide) ?_
        cases hf
        exact kj2 _ _ _ hP hD hS (lv_sub hl [0, 1, 2] rfl)
      · have hf := oo_t hf c24
        refine lv_iload_n hx hb dX6_set_34 rfl (lv_at hl 2 rfl) ?_
        refine lv_if_lt (tgt := 42) hx hb dX6_set_35 (by decide) (fun c25 => ?_) (fun c25 => ?_)
        · have hf := oo_t hf c25
          refine lv_iconst (v := (0 : Int32)) hx hb dX6_set_42 (by decide) ?_
          cases hf
          exact kj2 _ _ _ hP hD hS (lv_sub hl [0, 1, 2] rfl)
        · have hf := oo_f hf c25
          refine lv_iconst (v := (1 : Int32)) hx hb dX6_set_38 (by decide) ?_
          refine lv_goto (tgt := 43) hx hb dX6_set_39 (by decide) ?_
          cases hf
          exact kj2 _ _ _ hP hD hS (lv_sub hl [0, 1, 2] rfl)
    · have hf := oo_t hf c23
      refine lv_iload_n hx hb dX6_set_20 rfl (lv_at hl 2 rfl) ?_
      refine lv_iconst (v := (1 : Int32)) hx hb dX6_set_21 (by decide) ?_
      refine lv_iconst (v := (4 : Int32)) hx hb dX6_set_22 (by decide) ?_
      have F : Fr D A _ [] [] (wdM cI cJ ad mo_pageLength mo_page mo_nodes mo_links mo_fromOf mo_toOf mo_width mo_drawn mo_seed mo_bundleOf mo_netsRead mo_sent mo_passagesEver mo_astrayEver mo_loopsEver mo_newNodes mo_newPairs mo_due mo_newOne mo_newFrom mo_newTo mo_marks mo_drawing mo_leftOf mo_wayMany mo_wayAt mo_bitsNow mo_passages mo_astray mo_loops mo_steps mo_reached mo_others mo_h) := fr_nil hP hD hS hA
      refine kZ F hS (rS (As := [.int x2, .int (1 : Int32), .int (4 : Int32)]) (rest := []) ⟨hx, hb, hml, hown, hts⟩ hK hN F (c_X6_within l D cI cJ ad _  x2 (1 : Int32) (4 : Int32) (o_res := (f_X6_within x2 (1 : Int32) (4 : Int32))) rfl) (cwS 3 hts gX6_set_X6_within rfl rfl rfl (by decide +kernel) ⟨Nat.le_of_ble_eq_true rfl, Nat.le_of_ble_eq_true rfl⟩) rfl hl.1 rfl (Nat.le_of_ble_eq_true rfl) dX6_set_23 ⟨Nat.zero_le _, Nat.zero_le _⟩) (fun H locs hb26 hP hD hS => ?_)
      refine lv_goto (tgt := 43) hx hb dX6_set_26 (by decide) ?_
      cases hf
      exact kj2 _ _ _ hP hD hS (lv_sub hl [0, 1, 2] rfl)
  · have hf := oo_t hf c22
    refine lv_iload_n hx hb dX6_set_4 rfl (lv_at hl 2 rfl) ?_
    refine lv_bipush (v := (8 : Int32)) hx hb dX6_set_5 (by decide) ?_
    refine lv_bipush (v := (40 : Int32)) hx hb dX6_set_7 (by decide) ?_
    have F : Fr D A _ [] [] (wdM cI cJ ad mo_pageLength mo_page mo_nodes mo_links mo_fromOf mo_toOf mo_width mo_drawn mo_seed mo_bundleOf mo_netsRead mo_sent mo_passagesEver mo_astrayEver mo_loopsEver mo_newNodes mo_newPairs mo_due mo_newOne mo_newFrom mo_newTo mo_marks mo_drawing mo_leftOf mo_wayMany mo_wayAt mo_bitsNow mo_passages mo_astray mo_loops mo_steps mo_reached mo_others mo_h) := fr_nil hP hD hS hA
    refine kZ F hS (rS (As := [.int x2, .int (8 : Int32), .int (40 : Int32)]) (rest := []) ⟨hx, hb, hml, hown, hts⟩ hK hN F (c_X6_within l D cI cJ ad _  x2 (8 : Int32) (40 : Int32) (o_res := (f_X6_within x2 (8 : Int32) (40 : Int32))) rfl) (cwS 3 hts gX6_set_X6_within rfl rfl rfl (by decide +kernel) ⟨Nat.le_of_ble_eq_true rfl, Nat.le_of_ble_eq_true rfl⟩) rfl hl.1 rfl (Nat.le_of_ble_eq_true rfl) dX6_set_9 ⟨Nat.zero_le _, Nat.zero_le _⟩) (fun H locs hb27 hP hD hS => ?_)
    refine lv_goto (tgt := 43) hx hb dX6_set_12 (by decide) ?_
    cases hf
    exact kj2 _ _ _ hP hD hS (lv_sub hl [0, 1, 2] rfl)
