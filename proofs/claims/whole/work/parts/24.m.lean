def f_X6_spreadNow (mo_width : Int32) (mo_drawn : Int32) (mo_bitsNow : Int64) (mo_passages : Int32) (mo_astray : Int32) (mo_loops : Int32) (mo_steps : Int32) (mo_reached : Int32) (mo_others : Int32) (x1 : Int32) : Option (Int32) :=
  if x1 = (0 : Int32) then
    Option.bind (f_X6_ones mo_bitsNow) fun r4 =>
    some r4
  else
    if x1 = (1 : Int32) then
      some mo_passages
    else
      if x1 = (2 : Int32) then
        some mo_astray
      else
        if x1 = (3 : Int32) then
          some mo_loops
        else
          if x1 = (4 : Int32) then
            some mo_steps
          else
            if x1 = (5 : Int32) then
              some mo_reached
            else
              if x1 = (6 : Int32) then
                Option.bind (f_X6_odds mo_width mo_drawn mo_bitsNow (x1 - (6 : Int32))) fun r13 =>
                some r13
              else
                if x1 = (7 : Int32) then
                  Option.bind (f_X6_odds mo_width mo_drawn mo_bitsNow (x1 - (6 : Int32))) fun r17 =>
                  some r17
                else
                  some mo_others
abbrev rm_X6_spreadNow : Room := { frames := 2, cells := 0, slots := 0, locals := 48 }
set_option maxHeartbeats 4000000 in
set_option maxRecDepth 100000 in
theorem c_X6_spreadNow (l : Launch) (D : va_G) (cI cJ : ClassId) (ad : Nat → Nat) (sz : Nat) {mo_pageLength : Int32} {mo_page : Nat → Int32} {mo_nodes mo_links : Int32} {mo_fromOf mo_toOf : Nat → Int32} {mo_width mo_drawn mo_seed : Int32} {mo_bundleOf : Nat → Int32} {mo_netsRead mo_sent mo_passagesEver mo_astrayEver mo_loopsEver mo_newNodes mo_newPairs mo_due mo_newOne : Int32} {mo_newFrom mo_newTo : Nat → Int32} {mo_marks : Nat → Int64} {mo_drawing : Int64} {mo_leftOf : Nat → Int32} {mo_wayMany : Int32} {mo_wayAt : Nat → Int32} {mo_bitsNow : Int64} {mo_passages mo_astray mo_loops mo_steps mo_reached mo_others : Int32} {mo_h : Int64} (x1 : Int32) {o_res : Int32} (hf : f_X6_spreadNow mo_width mo_drawn mo_bitsNow mo_passages mo_astray mo_loops mo_steps mo_reached mo_others x1 = some o_res) : CtI l yX6_spreadNow wsX6_spreadNow rm_X6_spreadNow D cI cJ [.ref (ad 15), .int x1] (wdM cI cJ ad mo_pageLength mo_page mo_nodes mo_links mo_fromOf mo_toOf mo_width mo_drawn mo_seed mo_bundleOf mo_netsRead mo_sent mo_passagesEver mo_astrayEver mo_loopsEver mo_newNodes mo_newPairs mo_due mo_newOne mo_newFrom mo_newTo mo_marks mo_drawing mo_leftOf mo_wayMany mo_wayAt mo_bitsNow mo_passages mo_astray mo_loops mo_steps mo_reached mo_others mo_h) sz o_res (wdM cI cJ ad mo_pageLength mo_page mo_nodes mo_links mo_fromOf mo_toOf mo_width mo_drawn mo_seed mo_bundleOf mo_netsRead mo_sent mo_passagesEver mo_astrayEver mo_loopsEver mo_newNodes mo_newPairs mo_due mo_newOne mo_newFrom mo_newTo mo_marks mo_drawing mo_leftOf mo_wayMany mo_wayAt mo_bitsNow mo_passages mo_astray mo_loops mo_steps mo_reached mo_others mo_h) := by
  refine ctI_of (cc := cX6_spreadNow) (maxL := 2) (by decide) rfl (Nat.le_of_ble_eq_true rfl) ?_
  intro p e s m below meth c Q A hx hb hml hown hts hK hN hA hret ls hl hP hD hS
  obtain ⟨args, hargs⟩ : ∃ a : Array Value, a = [.ref (ad 15), .int x1].toArray := ⟨_, rfl⟩
  rw [← hargs] at hts hret ⊢
  have hown : s.vm.findClass RX6 = some m.cls := hown
  have hl : lv_has ls 2 [(0, .ref (ad 15)), (1, .int x1)] := hl
  have hin_X6 : ∀ w ∈ wsX60, w ∈ wsX6_spreadNow := fun _ h => List.mem_cons_of_mem _ (List.mem_append_right _ h)
  have fl_169 : (Cond.fieldLink RX6 169 "FoldedWaysModel" "bitsNow" "J").before args s = true := hat hts 1 rfl
  have fl_172 : (Cond.fieldLink RX6 172 "FoldedWaysModel" "passages" "I").before args s = true := hat hts 2 rfl
  have fl_175 : (Cond.fieldLink RX6 175 "FoldedWaysModel" "astray" "I").before args s = true := hat hts 3 rfl
  have fl_178 : (Cond.fieldLink RX6 178 "FoldedWaysModel" "loops" "I").before args s = true := hat hts 4 rfl
  have fl_181 : (Cond.fieldLink RX6 181 "FoldedWaysModel" "steps" "I").before args s = true := hat hts 5 rfl
  have fl_184 : (Cond.fieldLink RX6 184 "FoldedWaysModel" "others" "I").before args s = true := hat hts 7 rfl
  have fl_191 : (Cond.fieldLink RX6 191 "FoldedWaysModel" "reached" "I").before args s = true := hat hts 6 rfl
  unfold f_X6_spreadNow at hf
  refine lv_iload_n hx hb dX6_spreadNow_0 rfl (lv_at hl 1 rfl) ?_
  by_cases c2 : x1 = (0 : Int32)
  · have hf := oo_t hf c2
    refine lv_tableIn (tgt := 48) hx hb dX6_spreadNow_1 (by rw [c2]; decide) (by rw [c2]; decide) (by rw [c2]; rfl) (by decide) ?_
    refine lv_aload_n hx hb dX6_spreadNow_48 rfl (lv_at hl 0 rfl) ?_
    refine va_get (ci := 6) (v := .long mo_bitsNow) (C := RX6) (T := TX6) (N := 34) hx hb hts hin_X6 hown hK hP 0 rfl rfl 26 (by decide) fl_169 (fun _ h9 => h9) rfl dX6_spreadNow_49 ?_
    obtain ⟨r4, h3, hf⟩ := oo_b hf
    try dsimp only at hf
    have F : Fr D A _ [] [] (wdM cI cJ ad mo_pageLength mo_page mo_nodes mo_links mo_fromOf mo_toOf mo_width mo_drawn mo_seed mo_bundleOf mo_netsRead mo_sent mo_passagesEver mo_astrayEver mo_loopsEver mo_newNodes mo_newPairs mo_due mo_newOne mo_newFrom mo_newTo mo_marks mo_drawing mo_leftOf mo_wayMany mo_wayAt mo_bitsNow mo_passages mo_astray mo_loops mo_steps mo_reached mo_others mo_h) := fr_nil hP hD hS hA
    refine kI F hS (rS (As := [.long mo_bitsNow]) (rest := []) ⟨hx, hb, hml, hown, hts⟩ hK hN F (c_X6_ones l D cI cJ ad _  mo_bitsNow (o_res := r4) h3) (cwS 1 hts gX6_spreadNow_X6_ones rfl rfl rfl (by decide +kernel) ⟨Nat.le_of_ble_eq_true rfl, Nat.le_of_ble_eq_true rfl⟩) rfl hl.1 rfl (Nat.le_of_ble_eq_true rfl) dX6_spreadNow_52 ⟨Nat.zero_le _, Nat.zero_le _⟩) (fun H locs hP hD hS => ?_)
    cases hf
    exact hret _ _ _ _ dX6_spreadNow_55 hP hD hS
  · have hf := oo_f hf c2
    by_cases c6 : x1 = (1 : Int32)
    · have hf := oo_t hf c6
      refine lv_tableIn (tgt := 56) hx hb dX6_spreadNow_1 (by rw [c6]; decide) (by rw [c6]; decide) (by rw [c6]; rfl) (by decide) ?_
      refine lv_aload_n hx hb dX6_spreadNow_56 rfl (lv_at hl 0 rfl) ?_
      refine va_get (ci := 6) (v := .int mo_passages) (C := RX6) (T := TX6) (N := 34) hx hb hts hin_X6 hown hK hP 0 rfl rfl 27 (by decide) fl_172 (fun _ h9 => h9) rfl dX6_spreadNow_57 ?_
      cases hf
      exact hret _ _ _ _ dX6_spreadNow_60 hP hD hS
    · have hf := oo_f hf c6
      by_cases c7 : x1 = (2 : Int32)
      · have hf := oo_t hf c7
        refine lv_tableIn (tgt := 61) hx hb dX6_spreadNow_1 (by rw [c7]; decide) (by rw [c7]; decide) (by rw [c7]; rfl) (by decide) ?_
        refine lv_aload_n hx hb dX6_spreadNow_61 rfl (lv_at hl 0 rfl) ?_
        refine va_get (ci := 6) (v := .int mo_astray) (C := RX6) (T := TX6) (N := 34) hx hb hts hin_X6 hown hK hP 0 rfl rfl 28 (by decide) fl_175 (fun _ h9 => h9) rfl dX6_spreadNow_62 ?_
        cases hf
        exact hret _ _ _ _ dX6_spreadNow_65 hP hD hS
      · have hf := oo_f hf c7
        by_cases c8 : x1 = (3 : Int32)
        · have hf := oo_t hf c8
          refine lv_tableIn (tgt := 66) hx hb dX6_spreadNow_1 (by rw [c8]; decide) (by rw [c8]; decide) (by rw [c8]; rfl) (by decide) ?_
          refine lv_aload_n hx hb dX6_spreadNow_66 rfl (lv_at hl 0 rfl) ?_
          refine va_get (ci := 6) (v := .int mo_loops) (C := RX6) (T := TX6) (N := 34) hx hb hts hin_X6 hown hK hP 0 rfl rfl 29 (by decide) fl_178 (fun _ h9 => h9) rfl dX6_spreadNow_67 ?_
          cases hf
          exact hret _ _ _ _ dX6_spreadNow_70 hP hD hS
        · have hf := oo_f hf c8
          by_cases c9 : x1 = (4 : Int32)
          · have hf := oo_t hf c9
            refine lv_tableIn (tgt := 71) hx hb dX6_spreadNow_1 (by rw [c9]; decide) (by rw [c9]; decide) (by rw [c9]; rfl) (by decide) ?_
            refine lv_aload_n hx hb dX6_spreadNow_71 rfl (lv_at hl 0 rfl) ?_
            refine va_get (ci := 6) (v := .int mo_steps) (C := RX6) (T := TX6) (N := 34) hx hb hts hin_X6 hown hK hP 0 rfl rfl 30 (by decide) fl_181 (fun _ h9 => h9) rfl dX6_spreadNow_72 ?_
            cases hf
            exact hret _ _ _ _ dX6_spreadNow_75 hP hD hS
          · have hf := oo_f hf c9
            by_cases c10 : x1 = (5 : Int32)
            · have hf := oo_t hf c10
              refine lv_tableIn (tgt := 76) hx hb dX6_spreadNow_1 (by rw [c10]; decide) (by rw [c10]; decide) (by rw [c10]; rfl) (by decide) ?_
              refine lv_aload_n hx hb dX6_spreadNow_76 rfl (lv_at hl 0 rfl) ?_
              refine va_get (ci := 6) (v := .int mo_reached) (C := RX6) (T := TX6) (N := 34) hx hb hts hin_X6 hown hK hP 0 rfl rfl 31 (by decide) fl_191 (fun _ h9 => h9) rfl dX6_spreadNow_77 ?_
              cases hf
              exact hret _ _ _ _ dX6_spreadNow_80 hP hD hS
            · have hf := oo_f hf c10
              by_cases c11 : x1 = (6 : Int32)
              · have hf := oo_t hf c11
                refine lv_tableIn (tgt := 81) hx hb dX6_spreadNow_1 (by rw [c11]; decide) (by rw [c11]; decide) (by rw [c11]; rfl) (by decide) ?_
                refine lv_aload_n hx hb dX6_spreadNow_81 rfl (lv_at hl 0 rfl) ?_
                refine lv_iload_n hx hb dX6_spreadNow_82 rfl (lv_at hl 1 rfl) ?_
                refine lv_bipush (v := (6 : Int32)) hx hb dX6_spreadNow_83 (by decide) ?_
                refine lv_isub hx hb dX6_spreadNow_85 ?_
                obtain ⟨r13, h12, hf⟩ := oo_b hf
                try dsimp only at hf
                have F : Fr D A _ (wdM cI cJ ad mo_pageLength mo_page mo_nodes mo_links mo_fromOf mo_toOf mo_width mo_drawn mo_seed mo_bundleOf mo_netsRead mo_sent mo_passagesEver mo_astrayEver mo_loopsEver mo_newNodes mo_newPairs mo_due mo_newOne mo_newFrom mo_newTo mo_marks mo_drawing mo_leftOf mo_wayMany mo_wayAt mo_bitsNow mo_passages mo_astray mo_loops mo_steps mo_reached mo_others mo_h) (wdM cI cJ ad mo_pageLength mo_page mo_nodes mo_links mo_fromOf mo_toOf mo_width mo_drawn mo_seed mo_bundleOf mo_netsRead mo_sent mo_passagesEver mo_astrayEver mo_loopsEver mo_newNodes mo_newPairs mo_due mo_newOne mo_newFrom mo_newTo mo_marks mo_drawing mo_leftOf mo_wayMany mo_wayAt mo_bitsNow mo_passages mo_astray mo_loops mo_steps mo_reached mo_others mo_h) (wdM cI cJ ad mo_pageLength mo_page mo_nodes mo_links mo_fromOf mo_toOf mo_width mo_drawn mo_seed mo_bundleOf mo_netsRead mo_sent mo_passagesEver mo_astrayEver mo_loopsEver mo_newNodes mo_newPairs mo_due mo_newOne mo_newFrom mo_newTo mo_marks mo_drawing mo_leftOf mo_wayMany mo_wayAt mo_bitsNow mo_passages mo_astray mo_loops mo_steps mo_reached mo_others mo_h) := fr_self hP hD hS hA
                refine kI F hS (rV (q := (RX6, TX6, 34)) (As := [.int (x1 - (6 : Int32))]) (rest := []) ⟨hx, hb, hml, hown, hts⟩ hK hN F (c_X6_odds l D cI cJ ad _ (mo_pageLength := mo_pageLength) (mo_page := mo_page) (mo_nodes := mo_nodes) (mo_links := mo_links) (mo_fromOf := mo_fromOf) (mo_toOf := mo_toOf) (mo_width := mo_width) (mo_drawn := mo_drawn) (mo_seed := mo_seed) (mo_bundleOf := mo_bundleOf) (mo_netsRead := mo_netsRead) (mo_sent := mo_sent) (mo_passagesEver := mo_passagesEver) (mo_astrayEver := mo_astrayEver) (mo_loopsEver := mo_loopsEver) (mo_newNodes := mo_newNodes) (mo_newPairs := mo_newPairs) (mo_due := mo_due) (mo_newOne := mo_newOne) (mo_newFrom := mo_newFrom) (mo_newTo := mo_newTo) (mo_marks := mo_marks) (mo_drawing := mo_drawing) (mo_leftOf := mo_leftOf) (mo_wayMany := mo_wayMany) (mo_wayAt := mo_wayAt) (mo_bitsNow := mo_bitsNow) (mo_passages := mo_passages) (mo_astray := mo_astray) (mo_loops := mo_loops) (mo_steps := mo_steps) (mo_reached := mo_reached) (mo_others := mo_others) (mo_h := mo_h) (x1 - (6 : Int32)) (o_res := r13) h12) (cwV 1 hts gX6_spreadNow_X6_odds rfl rfl rfl (by decide +kernel) ⟨Nat.le_of_ble_eq_true rfl, Nat.le_of_ble_eq_true rfl⟩) (ci := 6) rfl rfl rfl hl.1 rfl (Nat.le_of_ble_eq_true rfl) dX6_spreadNow_86 ⟨Nat.zero_le _, Nat.zero_le _⟩) (fun H locs hP hD hS => ?_)
                cases hf
                exact hret _ _ _ _ dX6_spreadNow_89 hP hD hS
              · have hf := oo_f hf c11
                by_cases c15 : x1 = (7 : Int32)
                · have hf := oo_t hf c15
                  refine lv_tableIn (tgt := 81) hx hb dX6_spreadNow_1 (by rw [c15]; decide) (by rw [c15]; decide) (by rw [c15]; rfl) (by decide) ?_
                  refine lv_aload_n hx hb dX6_spreadNow_81 rfl (lv_at hl 0 rfl) ?_
                  refine lv_iload_n hx hb dX6_spreadNow_82 rfl (lv_at hl 1 rfl) ?_
                  refine lv_bipush (v := (6 : Int32)) hx hb dX6_spreadNow_83 (by decide) ?_
                  refine lv_isub hx hb dX6_spreadNow_85 ?_
                  obtain ⟨r17, h16, hf⟩ := oo_b hf
                  try dsimp only at hf
                  have F : Fr D A _ (wdM cI cJ ad mo_pageLength mo_page mo_nodes mo_links mo_fromOf mo_toOf mo_width mo_drawn mo_seed mo_bundleOf mo_netsRead mo_sent mo_passagesEver mo_astrayEver mo_loopsEver mo_newNodes mo_newPairs mo_due mo_newOne mo_newFrom mo_newTo mo_marks mo_drawing mo_leftOf mo_wayMany mo_wayAt mo_bitsNow mo_passages mo_astray mo_loops mo_steps mo_reached mo_others mo_h) (wdM cI cJ ad mo_pageLength mo_page mo_nodes mo_links mo_fromOf mo_toOf mo_width mo_drawn mo_seed mo_bundleOf mo_netsRead mo_sent mo_passagesEver mo_astrayEver mo_loopsEver mo_newNodes mo_newPairs mo_due mo_newOne mo_newFrom mo_newTo mo_marks mo_drawing mo_leftOf mo_wayMany mo_wayAt mo_bitsNow mo_passages mo_astray mo_loops mo_steps mo_reached mo_others mo_h) (wdM cI cJ ad mo_pageLength mo_page mo_nodes mo_links mo_fromOf mo_toOf mo_width mo_drawn mo_seed mo_bundleOf mo_netsRead mo_sent mo_passagesEver mo_astrayEver mo_loopsEver mo_newNodes mo_newPairs mo_due mo_newOne mo_newFrom mo_newTo mo_marks mo_drawing mo_leftOf mo_wayMany mo_wayAt mo_bitsNow mo_passages mo_astray mo_loops mo_steps mo_reached mo_others mo_h) := fr_self hP hD hS hA
                  refine kI F hS (rV (q := (RX6, TX6, 34)) (As := [.int (x1 - (6 : Int32))]) (rest := []) ⟨hx, hb, hml, hown, hts⟩ hK hN F (c_X6_odds l D cI cJ ad _ (mo_pageLength := mo_pageLength) (mo_page := mo_page) (mo_nodes := mo_nodes) (mo_links := mo_links) (mo_fromOf := mo_fromOf) (mo_toOf := mo_toOf) (mo_width := mo_width) (mo_drawn := mo_drawn) (mo_seed := mo_seed) (mo_bundleOf := mo_bundleOf) (mo_netsRead := mo_netsRead) (mo_sent := mo_sent) (mo_passagesEver := mo_passagesEver) (mo_astrayEver := mo_astrayEver) (mo_loopsEver := mo_loopsEver) (mo_newNodes := mo_newNodes) (mo_newPairs := mo_newPairs) (mo_due := mo_due) (mo_newOne := mo_newOne) (mo_newFrom := mo_newFrom) (mo_newTo := mo_newTo) (mo_marks := mo_marks) (mo_drawing := mo_drawing) (mo_leftOf := mo_leftOf) (mo_wayMany := mo_wayMany) (mo_wayAt := mo_wayAt) (mo_bitsNow := mo_bitsNow) (mo_passages := mo_passages) (mo_astray := mo_astray) (mo_loops := mo_loops) (mo_steps := mo_steps) (mo_reached := mo_reached) (mo_others := mo_others) (mo_h := mo_h) (x1 - (6 : Int32)) (o_res := r17) h16) (cwV 1 hts gX6_spreadNow_X6_odds rfl rfl rfl (by decide +kernel) ⟨Nat.le_of_ble_eq_true rfl, Nat.le_of_ble_eq_true rfl⟩) (ci := 6) rfl rfl rfl hl.1 rfl (Nat.le_of_ble_eq_true rfl) dX6_spreadNow_86 ⟨Nat.zero_le _, Nat.zero_le _⟩) (fun H locs hP hD hS => ?_)
                  cases hf
                  exact hret _ _ _ _ dX6_spreadNow_89 hP hD hS
                · have hf := oo_f hf c15
                  refine lv_tableOut (tgt := 90) hx hb dX6_spreadNow_1 (tblo_0_8 c2 c6 c7 c8 c9 c10 c11 c15) (by decide) ?_
                  refine lv_aload_n hx hb dX6_spreadNow_90 rfl (lv_at hl 0 rfl) ?_
                  refine va_get (ci := 6) (v := .int mo_others) (C := RX6) (T := TX6) (N := 34) hx hb hts hin_X6 hown hK hP 0 rfl rfl 32 (by decide) fl_184 (fun _ h9 => h9) rfl dX6_spreadNow_91 ?_
                  cases hf
                  exact hret _ _ _ _ dX6_spreadNow_94 hP hD hS
def f_X6_spread (mo_nodes : Int32) (mo_links : Int32) (mo_fromOf : Nat → Int32) (mo_toOf : Nat → Int32) (mo_width : Int32) (mo_drawn : Int32) (mo_bundleOf : Nat → Int32) (mo_marks : Nat → Int64) (mo_leftOf : Nat → Int32) (mo_wayMany : Int32) (mo_wayAt : Nat → Int32) (mo_bitsNow : Int64) (mo_passages : Int32) (mo_astray : Int32) (mo_loops : Int32) (mo_steps : Int32) (mo_reached : Int32) (mo_others : Int32) (x1 : Int32) (x2 : Int32) (x3 : Int32) (x4 : Int32) (x5 : Int32) : Option (Int32 × (Nat → Int32) × Int32 × (Nat → Int32) × Int64 × Int32 × Int32 × Int32 × Int32 × Int32 × Int32) :=
  if (f_X6_isNode mo_nodes x1) = (0 : Int32) then
    some ((-1001 : Int32), mo_leftOf, mo_wayMany, mo_wayAt, mo_bitsNow, mo_passages, mo_astray, mo_loops, mo_steps, mo_reached, mo_others)
  else
    if (f_X6_isSet mo_nodes x2) = (0 : Int32) then
      some ((-1002 : Int32), mo_leftOf, mo_wayMany, mo_wayAt, mo_bitsNow, mo_passages, mo_astray, mo_loops, mo_steps, mo_reached, mo_others)
    else
      if (f_X6_isVariant x3) = (0 : Int32) then
        some ((-1002 : Int32), mo_leftOf, mo_wayMany, mo_wayAt, mo_bitsNow, mo_passages, mo_astray, mo_loops, mo_steps, mo_reached, mo_others)
      else
        if (f_X6_within x5 (0 : Int32) (8 : Int32)) = (0 : Int32) then
          some ((-1002 : Int32), mo_leftOf, mo_wayMany, mo_wayAt, mo_bitsNow, mo_passages, mo_astray, mo_loops, mo_steps, mo_reached, mo_others)
        else
          Option.bind (f_X6_treeOf mo_nodes mo_links mo_fromOf mo_toOf mo_leftOf mo_wayMany mo_wayAt x1 x2) fun (r10, mo_leftOf_11, mo_wayMany_12, mo_wayAt_13) =>
          Option.bind (f_X6_laySpread mo_links mo_fromOf mo_toOf mo_bundleOf mo_marks x1 r10 x3 x4) fun (mo_bitsNow_16, mo_passages_17, mo_astray_18, mo_loops_19, mo_steps_20, mo_reached_21, mo_others_22) =>
          Option.bind (f_X6_spreadNow mo_width mo_drawn mo_bitsNow_16 mo_passages_17 mo_astray_18 mo_loops_19 mo_steps_20 mo_reached_21 mo_others_22 x5) fun r25 =>
          some (r25, mo_leftOf_11, mo_wayMany_12, mo_wayAt_13, mo_bitsNow_16, mo_passages_17, mo_astray_18, mo_loops_19, mo_steps_20, mo_reached_21, mo_others_22)
abbrev rm_X6_spread : Room := { frames := 4, cells := 0, slots := 0, locals := 98 }
set_option maxHeartbeats 4000000 in
set_option maxRecDepth 100000 in
theorem c_X6_spread (l : Launch) (D : va_G) (cI cJ : ClassId) (ad : Nat → Nat) (sz : Nat) {mo_pageLength : Int32} {mo_page : Nat → Int32} {mo_nodes mo_links : Int32} {mo_fromOf mo_toOf : Nat → Int32} {mo_width mo_drawn mo_seed : Int32} {mo_bundleOf : Nat → Int32} {mo_netsRead mo_sent mo_passagesEver mo_astrayEver mo_loopsEver mo_newNodes mo_newPairs mo_due mo_newOne : Int32} {mo_newFrom mo_newTo : Nat → Int32} {mo_marks : Nat → Int64} {mo_drawing : Int64} {mo_leftOf : Nat → Int32} {mo_wayMany : Int32} {mo_wayAt : Nat → Int32} {mo_bitsNow : Int64} {mo_passages mo_astray mo_loops mo_steps mo_reached mo_others : Int32} {mo_h : Int64} (x1 : Int32) (x2 : Int32) (x3 : Int32) (x4 : Int32) (x5 : Int32) {o_res : Int32} {o_mo_leftOf : Nat → Int32} {o_mo_wayMany : Int32} {o_mo_wayAt : Nat → Int32} {o_mo_bitsNow : Int64} {o_mo_passages : Int32} {o_mo_astray : Int32} {o_mo_loops : Int32} {o_mo_steps : Int32} {o_mo_reached : Int32} {o_mo_others : Int32} (hf : f_X6_spread mo_nodes mo_links mo_fromOf mo_toOf mo_width mo_drawn mo_bundleOf mo_marks mo_leftOf mo_wayMany mo_wayAt mo_bitsNow mo_passages mo_astray mo_loops mo_steps mo_reached mo_others x1 x2 x3 x4 x5 = some (o_res, o_mo_leftOf, o_mo_wayMany, o_mo_wayAt, o_mo_bitsNow, o_mo_passages, o_mo_astray, o_mo_loops, o_mo_steps, o_mo_reached, o_mo_others)) : CtI l yX6_spread wsX6_spread rm_X6_spread D cI cJ [.ref (ad 15), .int x1, .int x2, .int x3, .int x4, .int x5] (wdM cI cJ ad mo_pageLength mo_page mo_nodes mo_links mo_fromOf mo_toOf mo_width mo_drawn mo_seed mo_bundleOf mo_netsRead mo_sent mo_passagesEver mo_astrayEver mo_loopsEver mo_newNodes mo_newPairs mo_due mo_newOne mo_newFrom mo_newTo mo_marks mo_drawing mo_leftOf mo_wayMany mo_wayAt mo_bitsNow mo_passages mo_astray mo_loops mo_steps mo_reached mo_others mo_h) sz o_res (wdM cI cJ ad mo_pageLength mo_page mo_nodes mo_links mo_fromOf mo_toOf mo_width mo_drawn mo_seed mo_bundleOf mo_netsRead mo_sent mo_passagesEver mo_astrayEver mo_loopsEver mo_newNodes mo_newPairs mo_due mo_newOne mo_newFrom mo_newTo mo_marks mo_drawing o_mo_leftOf o_mo_wayMany o_mo_wayAt o_mo_bitsNow o_mo_passages o_mo_astray o_mo_loops o_mo_steps o_mo_reached o_mo_others mo_h) := by
  refine ctI_of (cc := cX6_spread) (maxL := 6) (by decide) rfl (Nat.le_of_ble_eq_true rfl) ?_
  intro p e s m below meth c Q A hx hb hml hown hts hK hN hA hret ls hl hP hD hS
  obtain ⟨args, hargs⟩ : ∃ a : Array Value, a = [.ref (ad 15), .int x1, .int x2, .int x3, .int x4, .int x5].toArray := ⟨_, rfl⟩
  rw [← hargs] at hts hret ⊢
  have hown : s.vm.findClass RX6 = some m.cls := hown
  have hl : lv_has ls 6 [(0, .ref (ad 15)), (1, .int x1), (2, .int x2), (3, .int x3), (4, .int x4), (5, .int x5)] := hl
  unfold f_X6_spread at hf
  refine lv_aload_n hx hb dX6_spread_0 rfl (lv_at hl 0 rfl) ?_
  refine lv_iload_n hx hb dX6_spread_1 rfl (lv_at hl 1 rfl) ?_
  have F : Fr D A _ (wdM cI cJ ad mo_pageLength mo_page mo_nodes mo_links mo_fromOf mo_toOf mo_width mo_drawn mo_seed mo_bundleOf mo_netsRead mo_sent mo_passagesEver mo_astrayEver mo_loopsEver mo_newNodes mo_newPairs mo_due mo_newOne mo_newFrom mo_newTo mo_marks mo_drawing mo_leftOf mo_wayMany mo_wayAt mo_bitsNow mo_passages mo_astray mo_loops mo_steps mo_reached mo_others mo_h) (wdM cI cJ ad mo_pageLength mo_page mo_nodes mo_links mo_fromOf mo_toOf mo_width mo_drawn mo_seed mo_bundleOf mo_netsRead mo_sent mo_passagesEver mo_astrayEver mo_loopsEver mo_newNodes mo_newPairs mo_due mo_newOne mo_newFrom mo_newTo mo_marks mo_drawing mo_leftOf mo_wayMany mo_wayAt mo_bitsNow mo_passages mo_astray mo_loops mo_steps mo_reached mo_others mo_h) (wdM cI cJ ad mo_pageLength mo_page mo_nodes mo_links mo_fromOf mo_toOf mo_width mo_drawn mo_seed mo_bundleOf mo_netsRead mo_sent mo_passagesEver mo_astrayEver mo_loopsEver mo_newNodes mo_newPairs mo_due mo_newOne mo_newFrom mo_newTo mo_marks mo_drawing mo_leftOf mo_wayMany mo_wayAt mo_bitsNow mo_passages mo_astray mo_loops mo_steps mo_reached mo_others mo_h) := fr_self hP hD hS hA
  refine kZ F hS (rV (q := (RX6, TX6, 34)) (As := [.int x1]) (rest := []) ⟨hx, hb, hml, hown, hts⟩ hK hN F (c_X6_isNode l D cI cJ ad _ (mo_pageLength := mo_pageLength) (mo_page := mo_page) (mo_nodes := mo_nodes) (mo_links := mo_links) (mo_fromOf := mo_fromOf) (mo_toOf := mo_toOf) (mo_width := mo_width) (mo_drawn := mo_drawn) (mo_seed := mo_seed) (mo_bundleOf := mo_bundleOf) (mo_netsRead := mo_netsRead) (mo_sent := mo_sent) (mo_passagesEver := mo_passagesEver) (mo_astrayEver := mo_astrayEver) (mo_loopsEver := mo_loopsEver) (mo_newNodes := mo_newNodes) (mo_newPairs := mo_newPairs) (mo_due := mo_due) (mo_newOne := mo_newOne) (mo_newFrom := mo_newFrom) (mo_newTo := mo_newTo) (mo_marks := mo_marks) (mo_drawing := mo_drawing) (mo_leftOf := mo_leftOf) (mo_wayMany := mo_wayMany) (mo_wayAt := mo_wayAt) (mo_bitsNow := mo_bitsNow) (mo_passages := mo_passages) (mo_astray := mo_astray) (mo_loops := mo_loops) (mo_steps := mo_steps) (mo_reached := mo_reached) (mo_others := mo_others) (mo_h := mo_h) x1 (o_res := (f_X6_isNode mo_nodes x1)) rfl) (cwV 1 hts gX6_spread_X6_isNode rfl rfl rfl (by decide +kernel) ⟨Nat.le_of_ble_eq_true rfl, Nat.le_of_ble_eq_true rfl⟩) (ci := 6) rfl rfl rfl hl.1 rfl (Nat.le_of_ble_eq_true rfl) dX6_spread_2 ⟨Nat.zero_le _, Nat.zero_le _⟩) (fun H locs hb1 hP hD hS => ?_)
  refine lv_if_ne (tgt := 12) hx hb dX6_spread_5 (by decide) (fun c2 => ?_) (fun c2 => ?_)
  · have hf := oo_f hf c2
    refine lv_aload_n hx hb dX6_spread_12 rfl (lv_at hl 0 rfl) ?_
    refine lv_iload_n hx hb dX6_spread_13 rfl (lv_at hl 2 rfl) ?_
    have F : Fr D A _ (wdM cI cJ ad mo_pageLength mo_page mo_nodes mo_links mo_fromOf mo_toOf mo_width mo_drawn mo_seed mo_bundleOf mo_netsRead mo_sent mo_passagesEver mo_astrayEver mo_loopsEver mo_newNodes mo_newPairs mo_due mo_newOne mo_newFrom mo_newTo mo_marks mo_drawing mo_leftOf mo_wayMany mo_wayAt mo_bitsNow mo_passages mo_astray mo_loops mo_steps mo_reached mo_others mo_h) (wdM cI cJ ad mo_pageLength mo_page mo_nodes mo_links mo_fromOf mo_toOf mo_width mo_drawn mo_seed mo_bundleOf mo_netsRead mo_sent mo_passagesEver mo_astrayEver mo_loopsEver mo_newNodes mo_newPairs mo_due mo_newOne mo_newFrom mo_newTo mo_marks mo_drawing mo_leftOf mo_wayMany mo_wayAt mo_bitsNow mo_passages mo_astray mo_loops mo_steps mo_reached mo_others mo_h) (wdM cI cJ ad mo_pageLength mo_page mo_nodes mo_links mo_fromOf mo_toOf mo_width mo_drawn mo_seed mo_bundleOf mo_netsRead mo_sent mo_passagesEver mo_astrayEver mo_loopsEver mo_newNodes mo_newPairs mo_due mo_newOne mo_newFrom mo_newTo mo_marks mo_drawing mo_leftOf mo_wayMany mo_wayAt mo_bitsNow mo_passages mo_astray mo_loops mo_steps mo_reached mo_others mo_h) := fr_self hP hD hS hA
    refine kZ F hS (rV (q := (RX6, TX6, 34)) (As := [.int x2]) (rest := []) ⟨hx, hb, hml, hown, hts⟩ hK hN F (c_X6_isSet l D cI cJ ad _ (mo_pageLength := mo_pageLength) (mo_page := mo_page) (mo_nodes := mo_nodes) (mo_links := mo_links) (mo_fromOf := mo_fromOf) (mo_toOf := mo_toOf) (mo_width := mo_width) (mo_drawn := mo_drawn) (mo_seed := mo_seed) (mo_bundleOf := mo_bundleOf) (mo_netsRead := mo_netsRead) (mo_sent := mo_sent) (mo_passagesEver := mo_passagesEver) (mo_astrayEver := mo_astrayEver) (mo_loopsEver := mo_loopsEver) (mo_newNodes := mo_newNodes) (mo_newPairs := mo_newPairs) (mo_due := mo_due) (mo_newOne := mo_newOne) (mo_newFrom := mo_newFrom) (mo_newTo := mo_newTo) (mo_marks := mo_marks) (mo_drawing := mo_drawing) (mo_leftOf := mo_leftOf) (mo_wayMany := mo_wayMany) (mo_wayAt := mo_wayAt) (mo_bitsNow := mo_bitsNow) (mo_passages := mo_passages) (mo_astray := mo_astray) (mo_loops := mo_loops) (mo_steps := mo_steps) (mo_reached := mo_reached) (mo_others := mo_others) (mo_h := mo_h) x2 (o_res := (f_X6_isSet mo_nodes x2)) rfl) (cwV 1 hts gX6_spread_X6_isSet rfl rfl rfl (by decide +kernel) ⟨Nat.le_of_ble_eq_true rfl, Nat.le_of_ble_eq_true rfl⟩) (ci := 6) rfl rfl rfl hl.1 rfl (Nat.le_of_ble_eq_true rfl) dX6_spread_14 ⟨Nat.zero_le _, Nat.zero_le _⟩) (fun H locs hb3 hP hD hS => ?_)
    refine lv_if_eq (tgt := 38) hx hb dX6_spread_17 (by decide) (fun c4 => ?_) (fun c4 => ?_)
    · have hf := oo_t hf c4
      refine lv_sipush (v := (-1002 : Int32)) hx hb dX6_spread_38 (by decide) ?_
      cases hf
      exact hret _ _ _ _ dX6_spread_41 hP hD hS
    · have hf := oo_f hf c4
      refine lv_iload_n hx hb dX6_spread_20 rfl (lv_at hl 3 rfl) ?_
      have F : Fr D A _ [] [] (wdM cI cJ ad mo_pageLength mo_page mo_nodes mo_links mo_fromOf mo_toOf mo_width mo_drawn mo_seed mo_bundleOf mo_netsRead mo_sent mo_passagesEver mo_astrayEver mo_loopsEver mo_newNodes mo_newPairs mo_due mo_newOne mo_newFrom mo_newTo mo_marks mo_drawing mo_leftOf mo_wayMany mo_wayAt mo_bitsNow mo_passages mo_astray mo_loops mo_steps mo_reached mo_others mo_h) := fr_nil hP hD hS hA
      refine kZ F hS (rS (As := [.int x3]) (rest := []) ⟨hx, hb, hml, hown, hts⟩ hK hN F (c_X6_isVariant l D cI cJ ad _  x3 (o_res := (f_X6_isVariant x3)) rfl) (cwS 1 hts gX6_spread_X6_isVariant rfl rfl rfl (by decide +kernel) ⟨Nat.le_of_ble_eq_true rfl, Nat.le_of_ble_eq_true rfl⟩) rfl hl.1 rfl (Nat.le_of_ble_eq_true rfl) dX6_spread_21 ⟨Nat.zero_le _, Nat.zero_le _⟩) (fun H locs hb5 hP hD hS => ?_)
      refine lv_if_eq (tgt := 38) hx hb dX6_spread_24 (by decide) (fun c6 => ?_) (fun c6 => ?_)
      · have hf := oo_t hf c6
        refine lv_sipush (v := (-1002 : Int32)) hx hb dX6_spread_38 (by decide) ?_
        cases hf
        exact hret _ _ _ _ dX6_spread_41 hP hD hS
      · have hf := oo_f hf c6
        refine lv_iload hx hb dX6_spread_27 (lv_at hl 5 rfl) ?_
        refine lv_iconst (v := (0 : Int32)) hx hb dX6_spread_29 (by decide) ?_
        refine lv_bipush (v := (8 : Int32)) hx hb dX6_spread_30 (by decide) ?_
        have F : Fr D A _ [] [] (wdM cI cJ ad mo_pageLength mo_page mo_nodes mo_links mo_fromOf mo_toOf mo_width mo_drawn mo_seed mo_bundleOf mo_netsRead mo_sent mo_passagesEver mo_astrayEver mo_loopsEver mo_newNodes mo_newPairs mo_due mo_newOne mo_newFrom mo_newTo mo_marks mo_drawing mo_leftOf mo_wayMany mo_wayAt mo_bitsNow mo_passages mo_astray mo_loops mo_steps mo_reached mo_others mo_h) := fr_nil hP hD hS hA
        refine kZ F hS (rS (As := [.int x5, .int (0 : Int32), .int (8 : Int32)]) (rest := []) ⟨hx, hb, hml, hown, hts⟩ hK hN F (c_X6_within l D cI cJ ad _  x5 (0 : Int32) (8 : Int32) (o_res := (f_X6_within x5 (0 : Int32) (8 : Int32))) rfl) (cwS 3 hts gX6_spread_X6_within rfl rfl rfl (by decide +kernel) ⟨Nat.le_of_ble_eq_true rfl, Nat.le_of_ble_eq_true rfl⟩) rfl hl.1 rfl (Nat.le_of_ble_eq_true rfl) dX6_spread_32 ⟨Nat.zero_le _, Nat.zero_le _⟩) (fun H locs hb7 hP hD hS => ?_)
        refine lv_if_ne (tgt := 42) hx hb dX6_spread_35 (by decide) (fun c8 => ?_) (fun c8 => ?_)
        · have hf := oo_f hf c8
          refine lv_aload_n hx hb dX6_spread_42 rfl (lv_at hl 0 rfl) ?_
          refine lv_iload_n hx hb dX6_spread_43 rfl (lv_at hl 1 rfl) ?_
          refine lv_aload_n hx hb dX6_spread_44 rfl (lv_at hl 0 rfl) ?_
          refine lv_iload_n hx hb dX6_spread_45 rfl (lv_at hl 1 rfl) ?_
          refine lv_iload_n hx hb dX6_spread_46 rfl (lv_at hl 2 rfl) ?_
          obtain ⟨⟨r10, mo_leftOf_11, mo_wayMany_12, mo_wayAt_13⟩, h9, hf⟩ := oo_b hf
          try dsimp only at hf
          have F : Fr D A _ (wdM cI cJ ad mo_pageLength mo_page mo_nodes mo_links mo_fromOf mo_toOf mo_width mo_drawn mo_seed mo_bundleOf mo_netsRead mo_sent mo_passagesEver mo_astrayEver mo_loopsEver mo_newNodes mo_newPairs mo_due mo_newOne mo_newFrom mo_newTo mo_marks mo_drawing mo_leftOf mo_wayMany mo_wayAt mo_bitsNow mo_passages mo_astray mo_loops mo_steps mo_reached mo_others mo_h) (wdM cI cJ ad mo_pageLength mo_page mo_nodes mo_links mo_fromOf mo_toOf mo_width mo_drawn mo_seed mo_bundleOf mo_netsRead mo_sent mo_passagesEver mo_astrayEver mo_loopsEver mo_newNodes mo_newPairs mo_due mo_newOne mo_newFrom mo_newTo mo_marks mo_drawing mo_leftOf_11 mo_wayMany_12 mo_wayAt_13 mo_bitsNow mo_passages mo_astray mo_loops mo_steps mo_reached mo_others mo_h) (wdM cI cJ ad mo_pageLength mo_page mo_nodes mo_links mo_fromOf mo_toOf mo_width mo_drawn mo_seed mo_bundleOf mo_netsRead mo_sent mo_passagesEver mo_astrayEver mo_loopsEver mo_newNodes mo_newPairs mo_due mo_newOne mo_newFrom mo_newTo mo_marks mo_drawing mo_leftOf_11 mo_wayMany_12 mo_wayAt_13 mo_bitsNow mo_passages mo_astray mo_loops mo_steps mo_reached mo_others mo_h) := fr_self hP hD hS hA
          refine kI F hS (rV (q := (RX6, TX6, 34)) (As := [.int x1, .int x2]) (rest := [.int x1, .ref (ad 15)]) ⟨hx, hb, hml, hown, hts⟩ hK hN F (c_X6_treeOf l D cI cJ ad _ (mo_pageLength := mo_pageLength) (mo_page := mo_page) (mo_nodes := mo_nodes) (mo_links := mo_links) (mo_fromOf := mo_fromOf) (mo_toOf := mo_toOf) (mo_width := mo_width) (mo_drawn := mo_drawn) (mo_seed := mo_seed) (mo_bundleOf := mo_bundleOf) (mo_netsRead := mo_netsRead) (mo_sent := mo_sent) (mo_passagesEver := mo_passagesEver) (mo_astrayEver := mo_astrayEver) (mo_loopsEver := mo_loopsEver) (mo_newNodes := mo_newNodes) (mo_newPairs := mo_newPairs) (mo_due := mo_due) (mo_newOne := mo_newOne) (mo_newFrom := mo_newFrom) (mo_newTo := mo_newTo) (mo_marks := mo_marks) (mo_drawing := mo_drawing) (mo_leftOf := mo_leftOf) (mo_wayMany := mo_wayMany) (mo_wayAt := mo_wayAt) (mo_bitsNow := mo_bitsNow) (mo_passages := mo_passages) (mo_astray := mo_astray) (mo_loops := mo_loops) (mo_steps := mo_steps) (mo_reached := mo_reached) (mo_others := mo_others) (mo_h := mo_h) x1 x2 (o_res := r10) (o_mo_leftOf := mo_leftOf_11) (o_mo_wayMany := mo_wayMany_12) (o_mo_wayAt := mo_wayAt_13) h9) (cwV 2 hts gX6_spread_X6_treeOf rfl rfl rfl (by decide +kernel) ⟨Nat.le_of_ble_eq_true rfl, Nat.le_of_ble_eq_true rfl⟩) (ci := 6) rfl rfl rfl hl.1 rfl (Nat.le_of_ble_eq_true rfl) dX6_spread_47 ⟨Nat.zero_le _, Nat.zero_le _⟩) (fun H locs hP hD hS => ?_)
          refine lv_iload_n hx hb dX6_spread_50 rfl (lv_at hl 3 rfl) ?_
          refine lv_iload hx hb dX6_spread_51 (lv_at hl 4 rfl) ?_
          obtain ⟨⟨mo_bitsNow_16, mo_passages_17, mo_astray_18, mo_loops_19, mo_steps_20, mo_reached_21, mo_others_22⟩, h15, hf⟩ := oo_b hf
          try dsimp only at hf
          have F : Fr D A _ (wdM cI cJ ad mo_pageLength mo_page mo_nodes mo_links mo_fromOf mo_toOf mo_width mo_drawn mo_seed mo_bundleOf mo_netsRead mo_sent mo_passagesEver mo_astrayEver mo_loopsEver mo_newNodes mo_newPairs mo_due mo_newOne mo_newFrom mo_newTo mo_marks mo_drawing mo_leftOf_11 mo_wayMany_12 mo_wayAt_13 mo_bitsNow mo_passages mo_astray mo_loops mo_steps mo_reached mo_others mo_h) (wdM cI cJ ad mo_pageLength mo_page mo_nodes mo_links mo_fromOf mo_toOf mo_width mo_drawn mo_seed mo_bundleOf mo_netsRead mo_sent mo_passagesEver mo_astrayEver mo_loopsEver mo_newNodes mo_newPairs mo_due mo_newOne mo_newFrom mo_newTo mo_marks mo_drawing mo_leftOf_11 mo_wayMany_12 mo_wayAt_13 mo_bitsNow_16 mo_passages_17 mo_astray_18 mo_loops_19 mo_steps_20 mo_reached_21 mo_others_22 mo_h) (wdM cI cJ ad mo_pageLength mo_page mo_nodes mo_links mo_fromOf mo_toOf mo_width mo_drawn mo_seed mo_bundleOf mo_netsRead mo_sent mo_passagesEver mo_astrayEver mo_loopsEver mo_newNodes mo_newPairs mo_due mo_newOne mo_newFrom mo_newTo mo_marks mo_drawing mo_leftOf_11 mo_wayMany_12 mo_wayAt_13 mo_bitsNow_16 mo_passages_17 mo_astray_18 mo_loops_19 mo_steps_20 mo_reached_21 mo_others_22 mo_h) := fr_self hP hD hS hA
          refine kV F hS (rV (q := (RX6, TX6, 34)) (As := [.int x1, .int r10, .int x3, .int x4]) (rest := []) ⟨hx, hb, hml, hown, hts⟩ hK hN F (c_X6_laySpread l D cI cJ ad _ (mo_pageLength := mo_pageLength) (mo_page := mo_page) (mo_nodes := mo_nodes) (mo_links := mo_links) (mo_fromOf := mo_fromOf) (mo_toOf := mo_toOf) (mo_width := mo_width) (mo_drawn := mo_drawn) (mo_seed := mo_seed) (mo_bundleOf := mo_bundleOf) (mo_netsRead := mo_netsRead) (mo_sent := mo_sent) (mo_passagesEver := mo_passagesEver) (mo_astrayEver := mo_astrayEver) (mo_loopsEver := mo_loopsEver) (mo_newNodes := mo_newNodes) (mo_newPairs := mo_newPairs) (mo_due := mo_due) (mo_newOne := mo_newOne) (mo_newFrom := mo_newFrom) (mo_newTo := mo_newTo) (mo_marks := mo_marks) (mo_drawing := mo_drawing) (mo_leftOf := mo_leftOf_11) (mo_wayMany := mo_wayMany_12) (mo_wayAt := mo_wayAt_13) (mo_bitsNow := mo_bitsNow) (mo_passages := mo_passages) (mo_astray := mo_astray) (mo_loops := mo_loops) (mo_steps := mo_steps) (mo_reached := mo_reached) (mo_others := mo_others) (mo_h := mo_h) x1 r10 x3 x4 (o_mo_bitsNow := mo_bitsNow_16) (o_mo_passages := mo_passages_17) (o_mo_astray := mo_astray_18) (o_mo_loops := mo_loops_19) (o_mo_steps := mo_steps_20) (o_mo_reached := mo_reached_21) (o_mo_others := mo_others_22) h15) (cwV 4 hts gX6_spread_X6_laySpread rfl rfl rfl (by decide +kernel) ⟨Nat.le_of_ble_eq_true rfl, Nat.le_of_ble_eq_true rfl⟩) (ci := 6) rfl rfl rfl hl.1 rfl (Nat.le_of_ble_eq_true rfl) dX6_spread_53 ⟨Nat.zero_le _, Nat.zero_le _⟩) (fun H locs hP hD hS => ?_)
          refine lv_aload_n hx hb dX6_spread_56 rfl (lv_at hl 0 rfl) ?_
          refine lv_iload hx hb dX6_spread_57 (lv_at hl 5 rfl) ?_
          obtain ⟨r25, h24, hf⟩ := oo_b hf
          try dsimp only at hf
          have F : Fr D A _ (wdM cI cJ ad mo_pageLength mo_page mo_nodes mo_links mo_fromOf mo_toOf mo_width mo_drawn mo_seed mo_bundleOf mo_netsRead mo_sent mo_passagesEver mo_astrayEver mo_loopsEver mo_newNodes mo_newPairs mo_due mo_newOne mo_newFrom mo_newTo mo_marks mo_drawing mo_leftOf_11 mo_wayMany_12 mo_wayAt_13 mo_bitsNow_16 mo_passages_17 mo_astray_18 mo_loops_19 mo_steps_20 mo_reached_21 mo_others_22 mo_h) (wdM cI cJ ad mo_pageLength mo_page mo_nodes mo_links mo_fromOf mo_toOf mo_width mo_drawn mo_seed mo_bundleOf mo_netsRead mo_sent mo_passagesEver mo_astrayEver mo_loopsEver mo_newNodes mo_newPairs mo_due mo_newOne mo_newFrom mo_newTo mo_marks mo_drawing mo_leftOf_11 mo_wayMany_12 mo_wayAt_13 mo_bitsNow_16 mo_passages_17 mo_astray_18 mo_loops_19 mo_steps_20 mo_reached_21 mo_others_22 mo_h) (wdM cI cJ ad mo_pageLength mo_page mo_nodes mo_links mo_fromOf mo_toOf mo_width mo_drawn mo_seed mo_bundleOf mo_netsRead mo_sent mo_passagesEver mo_astrayEver mo_loopsEver mo_newNodes mo_newPairs mo_due mo_newOne mo_newFrom mo_newTo mo_marks mo_drawing mo_leftOf_11 mo_wayMany_12 mo_wayAt_13 mo_bitsNow_16 mo_passages_17 mo_astray_18 mo_loops_19 mo_steps_20 mo_reached_21 mo_others_22 mo_h) := fr_self hP hD hS hA
          refine kI F hS (rV (q := (RX6, TX6, 34)) (As := [.int x5]) (rest := []) ⟨hx, hb, hml, hown, hts⟩ hK hN F (c_X6_spreadNow l D cI cJ ad _ (mo_pageLength := mo_pageLength) (mo_page := mo_page) (mo_nodes := mo_nodes) (mo_links := mo_links) (mo_fromOf := mo_fromOf) (mo_toOf := mo_toOf) (mo_width := mo_width) (mo_drawn := mo_drawn) (mo_seed := mo_seed) (mo_bundleOf := mo_bundleOf) (mo_netsRead := mo_netsRead) (mo_sent := mo_sent) (mo_passagesEver := mo_passagesEver) (mo_astrayEver := mo_astrayEver) (mo_loopsEver := mo_loopsEver) (mo_newNodes := mo_newNodes) (mo_newPairs := mo_newPairs) (mo_due := mo_due) (mo_newOne := mo_newOne) (mo_newFrom := mo_newFrom) (mo_newTo := mo_newTo) (mo_marks := mo_marks) (mo_drawing := mo_drawing) (mo_leftOf := mo_leftOf_11) (mo_wayMany := mo_wayMany_12) (mo_wayAt := mo_wayAt_13) (mo_bitsNow := mo_bitsNow_16) (mo_passages := mo_passages_17) (mo_astray := mo_astray_18) (mo_loops := mo_loops_19) (mo_steps := mo_steps_20) (mo_reached := mo_reached_21) (mo_others := mo_others_22) (mo_h := mo_h) x5 (o_res := r25) h24) (cwV 1 hts gX6_spread_X6_spreadNow rfl rfl rfl (by decide +kernel) ⟨Nat.le_of_ble_eq_true rfl, Nat.le_of_ble_eq_true rfl⟩) (ci := 6) rfl rfl rfl hl.1 rfl (Nat.le_of_ble_eq_true rfl) dX6_spread_59 ⟨Nat.zero_le _, Nat.zero_le _⟩) (fun H locs hP hD hS => ?_)
          cases hf
          exact hret _ _ _ _ dX6_spread_62 hP hD hS
        · have hf := oo_t hf c8
          refine lv_sipush (v := (-1002 : Int32)) hx hb dX6_spread_38 (by decide) ?_
          cases hf
          exact hret _ _ _ _ dX6_spread_41 hP hD hS
  · have hf := oo_t hf c2
    refine lv_sipush (v := (-1001 : Int32)) hx hb dX6_spread_8 (by decide) ?_
    cases hf
    exact hret _ _ _ _ dX6_spread_11 hP hD hS
def f_X6_bestOf_L9 (mo_links : Int32) (mo_fromOf : Nat → Int32) (mo_toOf : Nat → Int32) (mo_bundleOf : Nat → Int32) (mo_marks : Nat → Int64) (x1 : Int32) (x2 : Int32) (x3 : Int32) : Nat → Int64 → Int32 → Int32 → Int32 → Int32 → Int32 → Int32 → Int32 → Int32 → Int32 → Option (Int64 × Int32 × Int32 × Int32 × Int32 × Int32 × Int32 × Int32)
  | 0, _, _, _, _, _, _, _, _, _, _ => none
  | n + 1, mo_bitsNow_a9, mo_passages_a9, mo_astray_a9, mo_loops_a9, mo_steps_a9, mo_reached_a9, mo_others_a9, x4_a9, x5_a9, x6_a9 =>
      if (3 : Int32) ≤ x6_a9 then
        some (mo_bitsNow_a9, mo_passages_a9, mo_astray_a9, mo_loops_a9, mo_steps_a9, mo_reached_a9, mo_others_a9, x4_a9)
      else
        Option.bind (f_X6_laySpread mo_links mo_fromOf mo_toOf mo_bundleOf mo_marks x1 x2 x6_a9 x3) fun (mo_bitsNow_12, mo_passages_13, mo_astray_14, mo_loops_15, mo_steps_16, mo_reached_17, mo_others_18) =>
        Option.bind (f_X6_ones mo_bitsNow_12) fun r21 =>
        Option.bind (α := Int32) (if (if x4_a9 = (-1 : Int32) then x6_a9 else (if x5_a9 ≤ (((64 : Int32) * mo_astray_14) + r21) then x4_a9 else x6_a9)) = x6_a9 then
            some (((64 : Int32) * mo_astray_14) + r21)
          else
            some x5_a9) fun k_25 =>
        f_X6_bestOf_L9 mo_links mo_fromOf mo_toOf mo_bundleOf mo_marks x1 x2 x3 n mo_bitsNow_12 mo_passages_13 mo_astray_14 mo_loops_15 mo_steps_16 mo_reached_17 mo_others_18 (if x4_a9 = (-1 : Int32) then x6_a9 else (if x5_a9 ≤ (((64 : Int32) * mo_astray_14) + r21) then x4_a9 else x6_a9)) k_25 (x6_a9 + (1 : Int32))
theorem f_X6_bestOf_L9_s (mo_links : Int32) (mo_fromOf : Nat → Int32) (mo_toOf : Nat → Int32) (mo_bundleOf : Nat → Int32) (mo_marks : Nat → Int64) (x1 : Int32) (x2 : Int32) (x3 : Int32) (n : Nat) (mo_bitsNow_a9 : Int64) (mo_passages_a9 : Int32) (mo_astray_a9 : Int32) (mo_loops_a9 : Int32) (mo_steps_a9 : Int32) (mo_reached_a9 : Int32) (mo_others_a9 : Int32) (x4_a9 : Int32) (x5_a9 : Int32) (x6_a9 : Int32) : f_X6_bestOf_L9 mo_links mo_fromOf mo_toOf mo_bundleOf mo_marks x1 x2 x3 (n + 1) mo_bitsNow_a9 mo_passages_a9 mo_astray_a9 mo_loops_a9 mo_steps_a9 mo_reached_a9 mo_others_a9 x4_a9 x5_a9 x6_a9 =
      (if (3 : Int32) ≤ x6_a9 then
        some (mo_bitsNow_a9, mo_passages_a9, mo_astray_a9, mo_loops_a9, mo_steps_a9, mo_reached_a9, mo_others_a9, x4_a9)
      else
        Option.bind (f_X6_laySpread mo_links mo_fromOf mo_toOf mo_bundleOf mo_marks x1 x2 x6_a9 x3) fun (mo_bitsNow_12, mo_passages_13, mo_astray_14, mo_loops_15, mo_steps_16, mo_reached_17, mo_others_18) =>
        Option.bind (f_X6_ones mo_bitsNow_12) fun r21 =>
        Option.bind (α := Int32) (if (if x4_a9 = (-1 : Int32) then x6_a9 else (if x5_a9 ≤ (((64 : Int32) * mo_astray_14) + r21) then x4_a9 else x6_a9)) = x6_a9 then
            some (((64 : Int32) * mo_astray_14) + r21)
          else
            some x5_a9) fun k_25 =>
        f_X6_bestOf_L9 mo_links mo_fromOf mo_toOf mo_bundleOf mo_marks x1 x2 x3 n mo_bitsNow_12 mo_passages_13 mo_astray_14 mo_loops_15 mo_steps_16 mo_reached_17 mo_others_18 (if x4_a9 = (-1 : Int32) then x6_a9 else (if x5_a9 ≤ (((64 : Int32) * mo_astray_14) + r21) then x4_a9 else x6_a9)) k_25 (x6_a9 + (1 : Int32))) := rfl
def f_X6_bestOf (mo_links : Int32) (mo_fromOf : Nat → Int32) (mo_toOf : Nat → Int32) (mo_bundleOf : Nat → Int32) (mo_marks : Nat → Int64) (mo_bitsNow : Int64) (mo_passages : Int32) (mo_astray : Int32) (mo_loops : Int32) (mo_steps : Int32) (mo_reached : Int32) (mo_others : Int32) (x1 : Int32) (x2 : Int32) (x3 : Int32) : Option (Int32 × Int64 × Int32 × Int32 × Int32 × Int32 × Int32 × Int32) :=
  Option.bind (f_X6_bestOf_L9 mo_links mo_fromOf mo_toOf mo_bundleOf mo_marks x1 x2 x3 100 mo_bitsNow mo_passages mo_astray mo_loops mo_steps mo_reached mo_others (-1 : Int32) (0 : Int32) (0 : Int32)) fun (mo_bitsNow_o1, mo_passages_o2, mo_astray_o3, mo_loops_o4, mo_steps_o5, mo_reached_o6, mo_others_o7, x4_o8) =>
  some (x4_o8, mo_bitsNow_o1, mo_passages_o2, mo_astray_o3, mo_loops_o4, mo_steps_o5, mo_reached_o6, mo_others_o7)
abbrev rm_X6_bestOf : Room := { frames := 4, cells := 0, slots := 0, locals := 98 }
set_option maxHeartbeats 4000000 in
set_option maxRecDepth 100000 in
theorem c_X6_bestOf (l : Launch) (D : va_G) (cI cJ : ClassId) (ad : Nat → Nat) (sz : Nat) {mo_pageLength : Int32} {mo_page : Nat → Int32} {mo_nodes mo_links : Int32} {mo_fromOf mo_toOf : Nat → Int32} {mo_width mo_drawn mo_seed : Int32} {mo_bundleOf : Nat → Int32} {mo_netsRead mo_sent mo_passagesEver mo_astrayEver mo_loopsEver mo_newNodes mo_newPairs mo_due mo_newOne : Int32} {mo_newFrom mo_newTo : Nat → Int32} {mo_marks : Nat → Int64} {mo_drawing : Int64} {mo_leftOf : Nat → Int32} {mo_wayMany : Int32} {mo_wayAt : Nat → Int32} {mo_bitsNow : Int64} {mo_passages mo_astray mo_loops mo_steps mo_reached mo_others : Int32} {mo_h : Int64} (x1 : Int32) (x2 : Int32) (x3 : Int32) {o_res : Int32} {o_mo_bitsNow : Int64} {o_mo_passages : Int32} {o_mo_astray : Int32} {o_mo_loops : Int32} {o_mo_steps : Int32} {o_mo_reached : Int32} {o_mo_others : Int32} (hf : f_X6_bestOf mo_links mo_fromOf mo_toOf mo_bundleOf mo_marks mo_bitsNow mo_passages mo_astray mo_loops mo_steps mo_reached mo_others x1 x2 x3 = some (o_res, o_mo_bitsNow, o_mo_passages, o_mo_astray, o_mo_loops, o_mo_steps, o_mo_reached, o_mo_others)) : CtI l yX6_bestOf wsX6_bestOf rm_X6_bestOf D cI cJ [.ref (ad 15), .int x1, .int x2, .int x3] (wdM cI cJ ad mo_pageLength mo_page mo_nodes mo_links mo_fromOf mo_toOf mo_width mo_drawn mo_seed mo_bundleOf mo_netsRead mo_sent mo_passagesEver mo_astrayEver mo_loopsEver mo_newNodes mo_newPairs mo_due mo_newOne mo_newFrom mo_newTo mo_marks mo_drawing mo_leftOf mo_wayMany mo_wayAt mo_bitsNow mo_passages mo_astray mo_loops mo_steps mo_reached mo_others mo_h) sz o_res (wdM cI cJ ad mo_pageLength mo_page mo_nodes mo_links mo_fromOf mo_toOf mo_width mo_drawn mo_seed mo_bundleOf mo_netsRead mo_sent mo_passagesEver mo_astrayEver mo_loopsEver mo_newNodes mo_newPairs mo_due mo_newOne mo_newFrom mo_newTo mo_marks mo_drawing mo_leftOf mo_wayMany mo_wayAt o_mo_bitsNow o_mo_passages o_mo_astray o_mo_loops o_mo_steps o_mo_reached o_mo_others mo_h) := by
  refine ctI_of (cc := cX6_bestOf) (maxL := 8) (by decide) rfl (Nat.le_of_ble_eq_true rfl) ?_
  intro p e s m below meth c Q A hx hb hml hown hts hK hN hA hret ls hl hP hD hS
  obtain ⟨args, hargs⟩ : ∃ a : Array Value, a = [.ref (ad 15), .int x1, .int x2, .int x3].toArray := ⟨_, rfl⟩
  rw [← hargs] at hts hret ⊢
  have hown : s.vm.findClass RX6 = some m.cls := hown
  have hl : lv_has ls 8 [(0, .ref (ad 15)), (1, .int x1), (2, .int x2), (3, .int x3)] := hl
  have hin_X6 : ∀ w ∈ wsX60, w ∈ wsX6_bestOf := fun _ h => List.mem_cons_of_mem _ (List.mem_append_right _ h)
  have fl_169 : (Cond.fieldLink RX6 169 "FoldedWaysModel" "bitsNow" "J").before args s = true := hat hts 2 rfl
  have fl_175 : (Cond.fieldLink RX6 175 "FoldedWaysModel" "astray" "I").before args s = true := hat hts 1 rfl
  unfold f_X6_bestOf at hf
  refine lv_iconst (v := (-1 : Int32)) hx hb dX6_bestOf_0 (by decide) ?_
  refine lv_istore (lv' := [(4, .int (-1 : Int32)), (0, .ref (ad 15)), (1, .int x1), (2, .int x2), (3, .int x3)]) hx hb dX6_bestOf_1 hl (by decide) rfl (fun ls hl => ?_)
  refine lv_iconst (v := (0 : Int32)) hx hb dX6_bestOf_3 (by decide) ?_
  refine lv_istore (lv' := [(5, .int (0 : Int32)), (4, .int (-1 : Int32)), (0, .ref (ad 15)), (1, .int x1), (2, .int x2), (3, .int x3)]) hx hb dX6_bestOf_4 hl (by decide) rfl (fun ls hl => ?_)
  refine lv_iconst (v := (0 : Int32)) hx hb dX6_bestOf_6 (by decide) ?_
  refine lv_istore (lv' := [(6, .int (0 : Int32)), (5, .int (0 : Int32)), (4, .int (-1 : Int32)), (0, .ref (ad 15)), (1, .int x1), (2, .int x2), (3, .int x3)]) hx hb dX6_bestOf_7 hl (by decide) rfl (fun ls hl => ?_)
  have lp9 : ∀ (n : Nat) (mo_bitsNow_a9 : Int64) (mo_passages_a9 : Int32) (mo_astray_a9 : Int32) (mo_loops_a9 : Int32) (mo_steps_a9 : Int32) (mo_reached_a9 : Int32) (mo_others_a9 : Int32) (x4_a9 : Int32) (x5_a9 : Int32) (x6_a9 : Int32) (mo_bitsNow_o1 : Int64) (mo_passages_o2 : Int32) (mo_astray_o3 : Int32) (mo_loops_o4 : Int32) (mo_steps_o5 : Int32) (mo_reached_o6 : Int32) (mo_others_o7 : Int32) (x4_o8 : Int32), f_X6_bestOf_L9 mo_links mo_fromOf mo_toOf mo_bundleOf mo_marks x1 x2 x3 n mo_bitsNow_a9 mo_passages_a9 mo_astray_a9 mo_loops_a9 mo_steps_a9 mo_reached_a9 mo_others_a9 x4_a9 x5_a9 x6_a9 = some (mo_bitsNow_o1, mo_passages_o2, mo_astray_o3, mo_loops_o4, mo_steps_o5, mo_reached_o6, mo_others_o7, x4_o8) → (∀ (H : Heap) (locs : List Loc) (ls : Array Slot), va_P D vwCl (wdM cI cJ ad mo_pageLength mo_page mo_nodes mo_links mo_fromOf mo_toOf mo_width mo_drawn mo_seed mo_bundleOf mo_netsRead mo_sent mo_passagesEver mo_astrayEver mo_loopsEver mo_newNodes mo_newPairs mo_due mo_newOne mo_newFrom mo_newTo mo_marks mo_drawing mo_leftOf mo_wayMany mo_wayAt mo_bitsNow_o1 mo_passages_o2 mo_astray_o3 mo_loops_o4 mo_steps_o5 mo_reached_o6 mo_others_o7 mo_h) H → va_D A (wdM cI cJ ad mo_pageLength mo_page mo_nodes mo_links mo_fromOf mo_toOf mo_width mo_drawn mo_seed mo_bundleOf mo_netsRead mo_sent mo_passagesEver mo_astrayEver mo_loopsEver mo_newNodes mo_newPairs mo_due mo_newOne mo_newFrom mo_newTo mo_marks mo_drawing mo_leftOf mo_wayMany mo_wayAt mo_bitsNow_o1 mo_passages_o2 mo_astray_o3 mo_loops_o4 mo_steps_o5 mo_reached_o6 mo_others_o7 mo_h) → va_S A s.heap H locs → lv_has ls 8 [(4, .int x4_o8)] → W p l e rm_X6_bestOf s m args below meth c H locs 0 0 Q (F0 m 85 ls [])) → ∀ (H : Heap) (locs : List Loc) (ls : Array Slot), va_P D vwCl (wdM cI cJ ad mo_pageLength mo_page mo_nodes mo_links mo_fromOf mo_toOf mo_width mo_drawn mo_seed mo_bundleOf mo_netsRead mo_sent mo_passagesEver mo_astrayEver mo_loopsEver mo_newNodes mo_newPairs mo_due mo_newOne mo_newFrom mo_newTo mo_marks mo_drawing mo_leftOf mo_wayMany mo_wayAt mo_bitsNow_a9 mo_passages_a9 mo_astray_a9 mo_loops_a9 mo_steps_a9 mo_reached_a9 mo_others_a9 mo_h) H → va_D A (wdM cI cJ ad mo_pageLength mo_page mo_nodes mo_links mo_fromOf mo_toOf mo_width mo_drawn mo_seed mo_bundleOf mo_netsRead mo_sent mo_passagesEver mo_astrayEver mo_loopsEver mo_newNodes mo_newPairs mo_due mo_newOne mo_newFrom mo_newTo mo_marks mo_drawing mo_leftOf mo_wayMany mo_wayAt mo_bitsNow_a9 mo_passages_a9 mo_astray_a9 mo_loops_a9 mo_steps_a9 mo_reached_a9 mo_others_a9 mo_h) → va_S A s.heap H locs → lv_has ls 8 [(0, .ref (ad 15)), (1, .int x1), (2, .int x2), (3, .int x3), (4, .int x4_a9), (5, .int x5_a9), (6, .int x6_a9)] → W p l e rm_X6_bestOf s m args below meth c H locs 0 0 Q (F0 m 9 ls []) := by
    intro n
    induction n with
    | zero =>
      intro mo_bitsNow_a9 mo_passages_a9 mo_astray_a9 mo_loops_a9 mo_steps_a9 mo_reached_a9 mo_others_a9 x4_a9 x5_a9 x6_a9 mo_bitsNow_o1 mo_passages_o2 mo_astray_o3 mo_loops_o4 mo_steps_o5 mo_reached_o6 mo_others_o7 x4_o8 h0
      exact oo_n h0
    | succ n ih =>
      intro mo_bitsNow_a9 mo_passages_a9 mo_astray_a9 mo_loops_a9 mo_steps_a9 mo_reached_a9 mo_others_a9 x4_a9 x5_a9 x6_a9 mo_bitsNow_o1 mo_passages_o2 mo_astray_o3 mo_loops_o4 mo_steps_o5 mo_reached_o6 mo_others_o7 x4_o8 hf kk H locs ls hP hD hS hl
      rw [f_X6_bestOf_L9_s] at hf
      refine lv_iload hx hb dX6_bestOf_9 (lv_at hl 6 rfl) ?_
      refine lv_iconst (v := (3 : Int32)) hx hb dX6_bestOf_11 (by decide) ?_
      refine lv_icmp_ge (tgt := 85) hx hb dX6_bestOf_12 (by decide) (fun c10 => ?_) (fun c10 => ?_)
      · have hf := oo_t hf c10
        cases hf
        exact kk _ _ _ hP hD hS (lv_sub hl [4] rfl)
      · have hf := oo_f hf c10
        refine lv_aload_n hx hb dX6_bestOf_15 rfl (lv_at hl 0 rfl) ?_
        refine lv_iload_n hx hb dX6_bestOf_16 rfl (lv_at hl 1 rfl) ?_
        refine lv_iload_n hx hb dX6_bestOf_17 rfl (lv_at hl 2 rfl) ?_
        refine lv_iload hx hb dX6_bestOf_18 (lv_at hl 6 rfl) ?_
        refine lv_iload_n hx hb dX6_bestOf_20 rfl (lv_at hl 3 rfl) ?_
        obtain ⟨⟨mo_bitsNow_12, mo_passages_13, mo_astray_14, mo_loops_15, mo_steps_16, mo_reached_17, mo_others_18⟩, h11, hf⟩ := oo_b hf
        try dsimp only at hf
        have F : Fr D A _ (wdM cI cJ ad mo_pageLength mo_page mo_nodes mo_links mo_fromOf mo_toOf mo_width mo_drawn mo_seed mo_bundleOf mo_netsRead mo_sent mo_passagesEver mo_astrayEver mo_loopsEver mo_newNodes mo_newPairs mo_due mo_newOne mo_newFrom mo_newTo mo_marks mo_drawing mo_leftOf mo_wayMany mo_wayAt mo_bitsNow_a9 mo_passages_a9 mo_astray_a9 mo_loops_a9 mo_steps_a9 mo_reached_a9 mo_others_a9 mo_h) (wdM cI cJ ad mo_pageLength mo_page mo_nodes mo_links mo_fromOf mo_toOf mo_width mo_drawn mo_seed mo_bundleOf mo_netsRead mo_sent mo_passagesEver mo_astrayEver mo_loopsEver mo_newNodes mo_newPairs mo_due mo_newOne mo_newFrom mo_newTo mo_marks mo_drawing mo_leftOf mo_wayMany mo_wayAt mo_bitsNow_12 mo_passages_13 mo_astray_14 mo_loops_15 mo_steps_16 mo_reached_17 mo_others_18 mo_h) (wdM cI cJ ad mo_pageLength mo_page mo_nodes mo_links mo_fromOf mo_toOf mo_width mo_drawn mo_seed mo_bundleOf mo_netsRead mo_sent mo_passagesEver mo_astrayEver mo_loopsEver mo_newNodes mo_newPairs mo_due mo_newOne mo_newFrom mo_newTo mo_marks mo_drawing mo_leftOf mo_wayMany mo_wayAt mo_bitsNow_12 mo_passages_13 mo_astray_14 mo_loops_15 mo_steps_16 mo_reached_17 mo_others_18 mo_h) := fr_self hP hD hS hA
        refine kV F hS (rV (q := (RX6, TX6, 34)) (As := [.int x1, .int x2, .int x6_a9, .int x3]) (rest := []) ⟨hx, hb, hml, hown, hts⟩ hK hN F (c_X6_laySpread l D cI cJ ad _ (mo_pageLength := mo_pageLength) (mo_page := mo_page) (mo_nodes := mo_nodes) (mo_links := mo_links) (mo_fromOf := mo_fromOf) (mo_toOf := mo_toOf) (mo_width := mo_width) (mo_drawn := mo_drawn) (mo_seed := mo_seed) (mo_bundleOf := mo_bundleOf) (mo_netsRead := mo_netsRead) (mo_sent := mo_sent) (mo_passagesEver := mo_passagesEver) (mo_astrayEver := mo_astrayEver) (mo_loopsEver := mo_loopsEver) (mo_newNodes := mo_newNodes) (mo_newPairs := mo_newPairs) (mo_due := mo_due) (mo_newOne := mo_newOne) (mo_newFrom := mo_newFrom) (mo_newTo := mo_newTo) (mo_marks := mo_marks) (mo_drawing := mo_drawing) (mo_leftOf := mo_leftOf) (mo_wayMany := mo_wayMany) (mo_wayAt := mo_wayAt) (mo_bitsNow := mo_bitsNow_a9) (mo_passages := mo_passages_a9) (mo_astray := mo_astray_a9) (mo_loops := mo_loops_a9) (mo_steps := mo_steps_a9) (mo_reached := mo_reached_a9) (mo_others := mo_others_a9) (mo_h := mo_h) x1 x2 x6_a9 x3 (o_mo_bitsNow := mo_bitsNow_12) (o_mo_passages := mo_passages_13) (o_mo_astray := mo_astray_14) (o_mo_loops := mo_loops_15) (o_mo_steps := mo_steps_16) (o_mo_reached := mo_reached_17) (o_mo_others := mo_others_18) h11) (cwV 4 hts gX6_bestOf_X6_laySpread rfl rfl rfl (by decide +kernel) ⟨Nat.le_of_ble_eq_true rfl, Nat.le_of_ble_eq_true rfl⟩) (ci := 6) rfl rfl rfl hl.1 rfl (Nat.le_of_ble_eq_true rfl) dX6_bestOf_21 ⟨Nat.zero_le _, Nat.zero_le _⟩) (fun H locs hP hD hS => ?_)
        refine lv_bipush (v := (64 : Int32)) hx hb dX6_bestOf_24 (by decide) ?_
        refine lv_aload_n hx hb dX6_bestOf_26 rfl (lv_at hl 0 rfl) ?_
        refine va_get (ci := 6) (v := .int mo_astray_14) (C := RX6) (T := TX6) (N := 34) hx hb hts hin_X6 hown hK hP 0 rfl rfl 28 (by decide) fl_175 (fun _ h9 => h9) rfl dX6_bestOf_27 ?_
        refine lv_imul hx hb dX6_bestOf_30 ?_
        refine lv_aload_n hx hb dX6_bestOf_31 rfl (lv_at hl 0 rfl) ?_
        refine va_get (ci := 6) (v := .long mo_bitsNow_12) (C := RX6) (T := TX6) (N := 34) hx hb hts hin_X6 hown hK hP 0 rfl rfl 26 (by decide) fl_169 (fun _ h9 => h9) rfl dX6_bestOf_32 ?_
        obtain ⟨r21, h20, hf⟩ := oo_b hf
        try dsimp only at hf
        have F : Fr D A _ [] [] (wdM cI cJ ad mo_pageLength mo_page mo_nodes mo_links mo_fromOf mo_toOf mo_width mo_drawn mo_seed mo_bundleOf mo_netsRead mo_sent mo_passagesEver mo_astrayEver mo_loopsEver mo_newNodes mo_newPairs mo_due mo_newOne mo_newFrom mo_newTo mo_marks mo_drawing mo_leftOf mo_wayMany mo_wayAt mo_bitsNow_12 mo_passages_13 mo_astray_14 mo_loops_15 mo_steps_16 mo_reached_17 mo_others_18 mo_h) := fr_nil hP hD hS hA
        refine kI F hS (rS (As := [.long mo_bitsNow_12]) (rest := [.int ((64 : Int32) * mo_astray_14)]) ⟨hx, hb, hml, hown, hts⟩ hK hN F (c_X6_ones l D cI cJ ad _  mo_bitsNow_12 (o_res := r21) h20) (cwS 1 hts gX6_bestOf_X6_ones rfl rfl rfl (by decide +kernel) ⟨Nat.le_of_ble_eq_true rfl, Nat.le_of_ble_eq_true rfl⟩) rfl hl.1 rfl (Nat.le_of_ble_eq_true rfl) dX6_bestOf_35 ⟨Nat.zero_le _, Nat.zero_le _⟩) (fun H locs hP hD hS => ?_)
        refine lv_iadd hx hb dX6_bestOf_38 ?_
        refine lv_istore (lv' := [(7, .int (((64 : Int32) * mo_astray_14) + r21)), (0, .ref (ad 15)), (1, .int x1), (2, .int x2), (3, .int x3), (4, .int x4_a9), (5, .int x5_a9), (6, .int x6_a9)]) hx hb dX6_bestOf_39 hl (by decide) rfl (fun ls hl => ?_)
        refine lv_iload hx hb dX6_bestOf_41 (lv_at hl 5 rfl) ?_
        refine lv_iconst (v := (-1 : Int32)) hx hb dX6_bestOf_43 (by decide) ?_
        have kj24 : ∀ (k_23 : Int32), k_23 = (if x4_a9 = (-1 : Int32) then x6_a9 else (if x5_a9 ≤ (((64 : Int32) * mo_astray_14) + r21) then x4_a9 else x6_a9)) → ∀ (H : Heap) (locs : List Loc) (ls : Array Slot), va_P D vwCl (wdM cI cJ ad mo_pageLength mo_page mo_nodes mo_links mo_fromOf mo_toOf mo_width mo_drawn mo_seed mo_bundleOf mo_netsRead mo_sent mo_passagesEver mo_astrayEver mo_loopsEver mo_newNodes mo_newPairs mo_due mo_newOne mo_newFrom mo_newTo mo_marks mo_drawing mo_leftOf mo_wayMany mo_wayAt mo_bitsNow_12 mo_passages_13 mo_astray_14 mo_loops_15 mo_steps_16 mo_reached_17 mo_others_18 mo_h) H → va_D A (wdM cI cJ ad mo_pageLength mo_page mo_nodes mo_links mo_fromOf mo_toOf mo_width mo_drawn mo_seed mo_bundleOf mo_netsRead mo_sent mo_passagesEver mo_astrayEver mo_loopsEver mo_newNodes mo_newPairs mo_due mo_newOne mo_newFrom mo_newTo mo_marks mo_drawing mo_leftOf mo_wayMany mo_wayAt mo_bitsNow_12 mo_passages_13 mo_astray_14 mo_loops_15 mo_steps_16 mo_reached_17 mo_others_18 mo_h) → va_S A s.heap H locs → lv_has ls 8 [(0, .ref (ad 15)), (1, .int x1), (2, .int x2), (3, .int x3), (5, .int x5_a9), (6, .int x6_a9), (7, .int (((64 : Int32) * mo_astray_14) + r21))] → W p l e rm_X6_bestOf s m args below meth c H locs 0 0 Q (F0 m 61 ls [.int k_23]) := by
          intro k_23 ek_23
          subst ek_23
          intro H locs ls hP hD hS hl
          refine lv_istore (lv' := [(4, .int (if x4_a9 = (-1 : Int32) then x6_a9 else (if x5_a9 ≤ (((64 : Int32) * mo_astray_14) + r21) then x4_a9 else x6_a9))), (0, .ref (ad 15)), (1, .int x1), (2, .int x2), (3, .int x3), (5, .int x5_a9), (6, .int x6_a9), (7, .int (((64 : Int32) * mo_astray_14) + r21))]) hx hb dX6_bestOf_61 hl (by decide) rfl (fun ls hl => ?_)
          refine lv_iload hx hb dX6_bestOf_63 (lv_at hl 0 rfl) ?_
          refine lv_iload hx hb dX6_bestOf_65 (lv_at hl 6 rfl) ?_
          obtain ⟨k_25, hj27, hf⟩ := oo_b hf
          try dsimp only at hf
          have kj26 : ∀ (H : Heap) (locs : List Loc) (ls : Array Slot), va_P D vwCl (wdM cI cJ ad mo_pageLength mo_page mo_nodes mo_links mo_fromOf mo_toOf mo_width mo_drawn mo_seed mo_bundleOf mo_netsRead mo_sent mo_passagesEver mo_astrayEver mo_loopsEver mo_newNodes mo_newPairs mo_due mo_newOne mo_newFrom mo_newTo mo_marks mo_drawing mo_leftOf mo_wayMany mo_wayAt mo_bitsNow_12 mo_passages_13 mo_astray_14 mo_loops_15 mo_steps_16 mo_reached_17 mo_others_18 mo_h) H → va_D A (wdM cI cJ ad mo_pageLength mo_page mo_nodes mo_links mo_fromOf mo_toOf mo_width mo_drawn mo_seed mo_bundleOf mo_netsRead mo_sent mo_passagesEver mo_astrayEver mo_loopsEver mo_newNodes mo_newPairs mo_due mo_newOne mo_newFrom mo_newTo mo_marks mo_drawing mo_leftOf mo_wayMany mo_wayAt mo_bitsNow_12 mo_passages_13 mo_astray_14 mo_loops_15 mo_steps_16 mo_reached_17 mo_others_18 mo_h) → va_S A s.heap H locs → lv_has ls 8 [(0, .ref (ad 15)), (1, .int x1), (2, .int x2), (3, .int x3), (4, .int (if x4_a9 = (-1 : Int32) then x6_a9 else (if x5_a9 ≤ (((64 : Int32) * mo_astray_14) + r21) then x4_a9 else x6_a9))), (6, .int x6_a9)] → W p l e rm_X6_bestOf s m args below meth c H locs 0 0 Q (F0 m 77 ls [.int k_25]) := by
            intro H locs ls hP hD hS hl
            refine lv_istore (lv' := [(5, .int k_25), (0, .ref (ad 15)), (1, .int x1), (2, .int x2), (3, .int x3), (4, .int (if x4_a9 = (-1 : Int32) then x6_a9 else (if x5_a9 ≤ (((64 : Int32) * mo_astray_14) + r21) then x4_a9 else x6_a9))), (6, .int x6_a9)]) hx hb dX6_bestOf_77 hl (by decide) rfl (fun ls hl => ?_)
            refine lv_iinc (v := (x6_a9 + (1 : Int32))) (lv' := [(6, .int (x6_a9 + (1 : Int32))), (5, .int k_25), (0, .ref (ad 15)), (1, .int x1), (2, .int x2), (3, .int x3), (4, .int (if x4_a9 = (-1 : Int32) then x6_a9 else (if x5_a9 ≤ (((64 : Int32) * mo_astray_14) + r21) then x4_a9 else x6_a9)))]) hx hb dX6_bestOf_79 hl (k := 6) rfl rfl (by decide) rfl (fun ls hl => ?_)
            refine lv_goto (tgt := 9) hx hb dX6_bestOf_82 (by decide) ?_
            exact ih mo_bitsNow_12 mo_passages_13 mo_astray_14 mo_loops_15 mo_steps_16 mo_reached_17 mo_others_18 (if x4_a9 = (-1 : Int32) then x6_a9 else (if x5_a9 ≤ (((64 : Int32) * mo_astray_14) + r21) then x4_a9 else x6_a9)) k_25 (x6_a9 + (1 : Int32)) _ _ _ _ _ _ _ _ hf kk _ _ _ hP hD hS (lv_sub hl [2, 3, 4, 5, 6, 1, 0] rfl)
          clear hf
          have hf := hj27
          clear hj27
          refine lv_icmp_ne (tgt := 75) hx hb dX6_bestOf_67 (by decide) (fun c28 => ?_) (fun c28 => ?_)
          · have hf := oo_f hf c28
            refine lv_iload hx hb dX6_bestOf_75 (lv_at hl 5 rfl) ?_
            cases hf
            exact kj26 _ _ _ hP hD hS (lv_sub hl [1, 2, 3, 4, 0, 6] rfl)
          · have hf := oo_t hf c28
            refine lv_iload hx hb dX6_bestOf_70 (lv_at hl 7 rfl) ?_
            refine lv_goto (tgt := 77) hx hb dX6_bestOf_72 (by decide) ?_
            cases hf
            exact kj26 _ _ _ hP hD hS (lv_sub hl [1, 2, 3, 4, 0, 6] rfl)
        refine lv_icmp_eq (tgt := 54) hx hb dX6_bestOf_44 (by decide) (fun c29 => ?_) (fun c29 => ?_)
        · refine lv_iload hx hb dX6_bestOf_54 (lv_at hl 7 rfl) ?_
          refine lv_goto (tgt := 61) hx hb dX6_bestOf_56 (by decide) ?_
          exact kj24 x6_a9 (if_pos c29).symm _ _ _ hP hD hS (lv_sub hl [1, 2, 3, 4, 6, 7, 0] rfl)
        · refine lv_iload hx hb dX6_bestOf_47 (lv_at hl 0 rfl) ?_
          refine lv_iload hx hb dX6_bestOf_49 (lv_at hl 6 rfl) ?_
          refine lv_icmp_ge (tgt := 59) hx hb dX6_bestOf_51 (by decide) (fun c30 => ?_) (fun c30 => ?_)
          · refine lv_iload hx hb dX6_bestOf_59 (lv_at hl 5 rfl) ?_
            exact kj24 x4_a9 ((if_neg c29).trans (if_pos c30)).symm _ _ _ hP hD hS (lv_sub hl [1, 2, 3, 4, 6, 7, 0] rfl)
          · refine lv_iload hx hb dX6_bestOf_54 (lv_at hl 7 rfl) ?_
            refine lv_goto (tgt := 61) hx hb dX6_bestOf_56 (by decide) ?_
            exact kj24 x6_a9 ((if_neg c29).trans (if_neg c30)).symm _ _ _ hP hD hS (lv_sub hl [1, 2, 3, 4, 6, 7, 0] rfl)
  obtain ⟨⟨mo_bitsNow_o1, mo_passages_o2, mo_astray_o3, mo_loops_o4, mo_steps_o5, mo_reached_o6, mo_others_o7, x4_o8⟩, h31, hf⟩ := oo_b hf
  try dsimp only at hf
  refine lp9  100 mo_bitsNow mo_passages mo_astray mo_loops mo_steps mo_reached mo_others (-1 : Int32) (0 : Int32) (0 : Int32) mo_bitsNow_o1 mo_passages_o2 mo_astray_o3 mo_loops_o4 mo_steps_o5 mo_reached_o6 mo_others_o7 x4_o8 h31 (fun H locs ls hP hD hS hl => ?_) _ _ _ hP hD hS (lv_sub hl [3, 4, 5, 6, 2, 1, 0] rfl)
  refine lv_iload hx hb dX6_bestOf_85 (lv_at hl 0 rfl) ?_
  cases hf
  exact hret _ _ _ _ dX6_bestOf_87 hP hD hS
def f_X6_best (mo_nodes : Int32) (mo_links : Int32) (mo_fromOf : Nat → Int32) (mo_toOf : Nat → Int32) (mo_bundleOf : Nat → Int32) (mo_marks : Nat → Int64) (mo_leftOf : Nat → Int32) (mo_wayMany : Int32) (mo_wayAt : Nat → Int32) (mo_bitsNow : Int64) (mo_passages : Int32) (mo_astray : Int32) (mo_loops : Int32) (mo_steps : Int32) (mo_reached : Int32) (mo_others : Int32) (x1 : Int32) (x2 : Int32) (x3 : Int32) : Option (Int32 × (Nat → Int32) × Int32 × (Nat → Int32) × Int64 × Int32 × Int32 × Int32 × Int32 × Int32 × Int32) :=
  if (f_X6_isNode mo_nodes x1) = (0 : Int32) then
    some ((-1001 : Int32), mo_leftOf, mo_wayMany, mo_wayAt, mo_bitsNow, mo_passages, mo_astray, mo_loops, mo_steps, mo_reached, mo_others)
  else
    if (f_X6_isSet mo_nodes x2) = (0 : Int32) then
      some ((-1002 : Int32), mo_leftOf, mo_wayMany, mo_wayAt, mo_bitsNow, mo_passages, mo_astray, mo_loops, mo_steps, mo_reached, mo_others)
    else
      Option.bind (f_X6_treeOf mo_nodes mo_links mo_fromOf mo_toOf mo_leftOf mo_wayMany mo_wayAt x1 x2) fun (r6, mo_leftOf_7, mo_wayMany_8, mo_wayAt_9) =>
      Option.bind (f_X6_bestOf mo_links mo_fromOf mo_toOf mo_bundleOf mo_marks mo_bitsNow mo_passages mo_astray mo_loops mo_steps mo_reached mo_others x1 r6 x3) fun (r12, mo_bitsNow_13, mo_passages_14, mo_astray_15, mo_loops_16, mo_steps_17, mo_reached_18, mo_others_19) =>
      some (r12, mo_leftOf_7, mo_wayMany_8, mo_wayAt_9, mo_bitsNow_13, mo_passages_14, mo_astray_15, mo_loops_16, mo_steps_17, mo_reached_18, mo_others_19)
abbrev rm_X6_best : Room := { frames := 5, cells := 0, slots := 0, locals := 125 }
set_option maxHeartbeats 4000000 in
set_option maxRecDepth 100000 in
theorem c_X6_best (l : Launch) (D : va_G) (cI cJ : ClassId) (ad : Nat → Nat) (sz : Nat) {mo_pageLength : Int32} {mo_page : Nat → Int32} {mo_nodes mo_links : Int32} {mo_fromOf mo_toOf : Nat → Int32} {mo_width mo_drawn mo_seed : Int32} {mo_bundleOf : Nat → Int32} {mo_netsRead mo_sent mo_passagesEver mo_astrayEver mo_loopsEver mo_newNodes mo_newPairs mo_due mo_newOne : Int32} {mo_newFrom mo_newTo : Nat → Int32} {mo_marks : Nat → Int64} {mo_drawing : Int64} {mo_leftOf : Nat → Int32} {mo_wayMany : Int32} {mo_wayAt : Nat → Int32} {mo_bitsNow : Int64} {mo_passages mo_astray mo_loops mo_steps mo_reached mo_others : Int32} {mo_h : Int64} (x1 : Int32) (x2 : Int32) (x3 : Int32) {o_res : Int32} {o_mo_leftOf : Nat → Int32} {o_mo_wayMany : Int32} {o_mo_wayAt : Nat → Int32} {o_mo_bitsNow : Int64} {o_mo_passages : Int32} {o_mo_astray : Int32} {o_mo_loops : Int32} {o_mo_steps : Int32} {o_mo_reached : Int32} {o_mo_others : Int32} (hf : f_X6_best mo_nodes mo_links mo_fromOf mo_toOf mo_bundleOf mo_marks mo_leftOf mo_wayMany mo_wayAt mo_bitsNow mo_passages mo_astray mo_loops mo_steps mo_reached mo_others x1 x2 x3 = some (o_res, o_mo_leftOf, o_mo_wayMany, o_mo_wayAt, o_mo_bitsNow, o_mo_passages, o_mo_astray, o_mo_loops, o_mo_steps, o_mo_reached, o_mo_others)) : CtI l yX6_best wsX6_best rm_X6_best D cI cJ [.ref (ad 15), .int x1, .int x2, .int x3] (wdM cI cJ ad mo_pageLength mo_page mo_nodes mo_links mo_fromOf mo_toOf mo_width mo_drawn mo_seed mo_bundleOf mo_netsRead mo_sent mo_passagesEver mo_astrayEver mo_loopsEver mo_newNodes mo_newPairs mo_due mo_newOne mo_newFrom mo_newTo mo_marks mo_drawing mo_leftOf mo_wayMany mo_wayAt mo_bitsNow mo_passages mo_astray mo_loops mo_steps mo_reached mo_others mo_h) sz o_res (wdM cI cJ ad mo_pageLength mo_page mo_nodes mo_links mo_fromOf mo_toOf mo_width mo_drawn mo_seed mo_bundleOf mo_netsRead mo_sent mo_passagesEver mo_astrayEver mo_loopsEver mo_newNodes mo_newPairs mo_due mo_newOne mo_newFrom mo_newTo mo_marks mo_drawing o_mo_leftOf o_mo_wayMany o_mo_wayAt o_mo_bitsNow o_mo_passages o_mo_astray o_mo_loops o_mo_steps o_mo_reached o_mo_others mo_h) := by
  refine ctI_of (cc := cX6_best) (maxL := 4) (by decide) rfl (Nat.le_of_ble_eq_true rfl) ?_
  intro p e s m below meth c Q A hx hb hml hown hts hK hN hA hret ls hl hP hD hS
  obtain ⟨args, hargs⟩ : ∃ a : Array Value, a = [.ref (ad 15), .int x1, .int x2, .int x3].toArray := ⟨_, rfl⟩
  rw [← hargs] at hts hret ⊢
  have hown : s.vm.findClass RX6 = some m.cls := hown
  have hl : lv_has ls 4 [(0, .ref (ad 15)), (1, .int x1), (2, .int x2), (3, .int x3)] := hl
  unfold f_X6_best at hf
  refine lv_aload_n hx hb dX6_best_0 rfl (lv_at hl 0 rfl) ?_
  refine lv_iload_n hx hb dX6_best_1 rfl (lv_at hl 1 rfl) ?_
  have F : Fr D A _ (wdM cI cJ ad mo_pageLength mo_page mo_nodes mo_links mo_fromOf mo_toOf mo_width mo_drawn mo_seed mo_bundleOf mo_netsRead mo_sent mo_passagesEver mo_astrayEver mo_loopsEver mo_newNodes mo_newPairs mo_due mo_newOne mo_newFrom mo_newTo mo_marks mo_drawing mo_leftOf mo_wayMany mo_wayAt mo_bitsNow mo_passages mo_astray mo_loops mo_steps mo_reached mo_others mo_h) (wdM cI cJ ad mo_pageLength mo_page mo_nodes mo_links mo_fromOf mo_toOf mo_width mo_drawn mo_seed mo_bundleOf mo_netsRead mo_sent mo_passagesEver mo_astrayEver mo_loopsEver mo_newNodes mo_newPairs mo_due mo_newOne mo_newFrom mo_newTo mo_marks mo_drawing mo_leftOf mo_wayMany mo_wayAt mo_bitsNow mo_passages mo_astray mo_loops mo_steps mo_reached mo_others mo_h) (wdM cI cJ ad mo_pageLength mo_page mo_nodes mo_links mo_fromOf mo_toOf mo_width mo_drawn mo_seed mo_bundleOf mo_netsRead mo_sent mo_passagesEver mo_astrayEver mo_loopsEver mo_newNodes mo_newPairs mo_due mo_newOne mo_newFrom mo_newTo mo_marks mo_drawing mo_leftOf mo_wayMany mo_wayAt mo_bitsNow mo_passages mo_astray mo_loops mo_steps mo_reached mo_others mo_h) := fr_self hP hD hS hA
  refine kZ F hS (rV (q := (RX6, TX6, 34)) (As := [.int x1]) (rest := []) ⟨hx, hb, hml, hown, hts⟩ hK hN F (c_X6_isNode l D cI cJ ad _ (mo_pageLength := mo_pageLength) (mo_page := mo_page) (mo_nodes := mo_nodes) (mo_links := mo_links) (mo_fromOf := mo_fromOf) (mo_toOf := mo_toOf) (mo_width := mo_width) (mo_drawn := mo_drawn) (mo_seed := mo_seed) (mo_bundleOf := mo_bundleOf) (mo_netsRead := mo_netsRead) (mo_sent := mo_sent) (mo_passagesEver := mo_passagesEver) (mo_astrayEver := mo_astrayEver) (mo_loopsEver := mo_loopsEver) (mo_newNodes := mo_newNodes) (mo_newPairs := mo_newPairs) (mo_due := mo_due) (mo_newOne := mo_newOne) (mo_newFrom := mo_newFrom) (mo_newTo := mo_newTo) (mo_marks := mo_marks) (mo_drawing := mo_drawing) (mo_leftOf := mo_leftOf) (mo_wayMany := mo_wayMany) (mo_wayAt := mo_wayAt) (mo_bitsNow := mo_bitsNow) (mo_passages := mo_passages) (mo_astray := mo_astray) (mo_loops := mo_loops) (mo_steps := mo_steps) (mo_reached := mo_reached) (mo_others := mo_others) (mo_h := mo_h) x1 (o_res := (f_X6_isNode mo_nodes x1)) rfl) (cwV 1 hts gX6_best_X6_isNode rfl rfl rfl (by decide +kernel) ⟨Nat.le_of_ble_eq_true rfl, Nat.le_of_ble_eq_true rfl⟩) (ci := 6) rfl rfl rfl hl.1 rfl (Nat.le_of_ble_eq_true rfl) dX6_best_2 ⟨Nat.zero_le _, Nat.zero_le _⟩) (fun H locs hb1 hP hD hS => ?_)
  refine lv_if_ne (tgt := 12) hx hb dX6_best_5 (by decide) (fun c2 => ?_) (fun c2 => ?_)
  · have hf := oo_f hf c2
    refine lv_aload_n hx hb dX6_best_12 rfl (lv_at hl 0 rfl) ?_
    refine lv_iload_n hx hb dX6_best_13 rfl (lv_at hl 2 rfl) ?_
    have F : Fr D A _ (wdM cI cJ ad mo_pageLength mo_page mo_nodes mo_links mo_fromOf mo_toOf mo_width mo_drawn mo_seed mo_bundleOf mo_netsRead mo_sent mo_passagesEver mo_astrayEver mo_loopsEver mo_newNodes mo_newPairs mo_due mo_newOne mo_newFrom mo_newTo mo_marks mo_drawing mo_leftOf mo_wayMany mo_wayAt mo_bitsNow mo_passages mo_astray mo_loops mo_steps mo_reached mo_others mo_h) (wdM cI cJ ad mo_pageLength mo_page mo_nodes mo_links mo_fromOf mo_toOf mo_width mo_drawn mo_seed mo_bundleOf mo_netsRead mo_sent mo_passagesEver mo_astrayEver mo_loopsEver mo_newNodes mo_newPairs mo_due mo_newOne mo_newFrom mo_newTo mo_marks mo_drawing mo_leftOf mo_wayMany mo_wayAt mo_bitsNow mo_passages mo_astray mo_loops mo_steps mo_reached mo_others mo_h) (wdM cI cJ ad mo_pageLength mo_page mo_nodes mo_links mo_fromOf mo_toOf mo_width mo_drawn mo_seed mo_bundleOf mo_netsRead mo_sent mo_passagesEver mo_astrayEver mo_loopsEver mo_newNodes mo_newPairs mo_due mo_newOne mo_newFrom mo_newTo mo_marks mo_drawing mo_leftOf mo_wayMany mo_wayAt mo_bitsNow mo_passages mo_astray mo_loops mo_steps mo_reached mo_others mo_h) := fr_self hP hD hS hA
    refine kZ F hS (rV (q := (RX6, TX6, 34)) (As := [.int x2]) (rest := []) ⟨hx, hb, hml, hown, hts⟩ hK hN F (c_X6_isSet l D cI cJ ad _ (mo_pageLength := mo_pageLength) (mo_page := mo_page) (mo_nodes := mo_nodes) (mo_links := mo_links) (mo_fromOf := mo_fromOf) (mo_toOf := mo_toOf) (mo_width := mo_width) (mo_drawn := mo_drawn) (mo_seed := mo_seed) (mo_bundleOf := mo_bundleOf) (mo_netsRead := mo_netsRead) (mo_sent := mo_sent) (mo_passagesEver := mo_passagesEver) (mo_astrayEver := mo_astrayEver) (mo_loopsEver := mo_loopsEver) (mo_newNodes := mo_newNodes) (mo_newPairs := mo_newPairs) (mo_due := mo_due) (mo_newOne := mo_newOne) (mo_newFrom := mo_newFrom) (mo_newTo := mo_newTo) (mo_marks := mo_marks) (mo_drawing := mo_drawing) (mo_leftOf := mo_leftOf) (mo_wayMany := mo_wayMany) (mo_wayAt := mo_wayAt) (mo_bitsNow := mo_bitsNow) (mo_passages := mo_passages) (mo_astray := mo_astray) (mo_loops := mo_loops) (mo_steps := mo_steps) (mo_reached := mo_reached) (mo_others := mo_others) (mo_h := mo_h) x2 (o_res := (f_X6_isSet mo_nodes x2)) rfl) (cwV 1 hts gX6_best_X6_isSet rfl rfl rfl (by decide +kernel) ⟨Nat.le_of_ble_eq_true rfl, Nat.le_of_ble_eq_true rfl⟩) (ci := 6) rfl rfl rfl hl.1 rfl (Nat.le_of_ble_eq_true rfl) dX6_best_14 ⟨Nat.zero_le _, Nat.zero_le _⟩) (fun H locs hb3 hP hD hS => ?_)
    refine lv_if_eq (tgt := 35) hx hb dX6_best_17 (by decide) (fun c4 => ?_) (fun c4 => ?_)
    · have hf := oo_t hf c4
      refine lv_sipush (v := (-1002 : Int32)) hx hb dX6_best_35 (by decide) ?_
      cases hf
      exact hret _ _ _ _ dX6_best_38 hP hD hS
    · have hf := oo_f hf c4
      refine lv_aload_n hx hb dX6_best_20 rfl (lv_at hl 0 rfl) ?_
      refine lv_iload_n hx hb dX6_best_21 rfl (lv_at hl 1 rfl) ?_
      refine lv_aload_n hx hb dX6_best_22 rfl (lv_at hl 0 rfl) ?_
      refine lv_iload_n hx hb dX6_best_23 rfl (lv_at hl 1 rfl) ?_
      refine lv_iload_n hx hb dX6_best_24 rfl (lv_at hl 2 rfl) ?_
      obtain ⟨⟨r6, mo_leftOf_7, mo_wayMany_8, mo_wayAt_9⟩, h5, hf⟩ := oo_b hf
      try dsimp only at hf
      have F : Fr D A _ (wdM cI cJ ad mo_pageLength mo_page mo_nodes mo_links mo_fromOf mo_toOf mo_width mo_drawn mo_seed mo_bundleOf mo_netsRead mo_sent mo_passagesEver mo_astrayEver mo_loopsEver mo_newNodes mo_newPairs mo_due mo_newOne mo_newFrom mo_newTo mo_marks mo_drawing mo_leftOf mo_wayMany mo_wayAt mo_bitsNow mo_passages mo_astray mo_loops mo_steps mo_reached mo_others mo_h) (wdM cI cJ ad mo_pageLength mo_page mo_nodes mo_links mo_fromOf mo_toOf mo_width mo_drawn mo_seed mo_bundleOf mo_netsRead mo_sent mo_passagesEver mo_astrayEver mo_loopsEver mo_newNodes mo_newPairs mo_due mo_newOne mo_newFrom mo_newTo mo_marks mo_drawing mo_leftOf_7 mo_wayMany_8 mo_wayAt_9 mo_bitsNow mo_passages mo_astray mo_loops mo_steps mo_reached mo_others mo_h) (wdM cI cJ ad mo_pageLength mo_page mo_nodes mo_links mo_fromOf mo_toOf mo_width mo_drawn mo_seed mo_bundleOf mo_netsRead mo_sent mo_passagesEver mo_astrayEver mo_loopsEver mo_newNodes mo_newPairs mo_due mo_newOne mo_newFrom mo_newTo mo_marks mo_drawing mo_leftOf_7 mo_wayMany_8 mo_wayAt_9 mo_bitsNow mo_passages mo_astray mo_loops mo_steps mo_reached mo_others mo_h) := fr_self hP hD hS hA
      refine kI F hS (rV (q := (RX6, TX6, 34)) (As := [.int x1, .int x2]) (rest := [.int x1, .ref (ad 15)]) ⟨hx, hb, hml, hown, hts⟩ hK hN F (c_X6_treeOf l D cI cJ ad _ (mo_pageLength := mo_pageLength) (mo_page := mo_page) (mo_nodes := mo_nodes) (mo_links := mo_links) (mo_fromOf := mo_fromOf) (mo_toOf := mo_toOf) (mo_width := mo_width) (mo_drawn := mo_drawn) (mo_seed := mo_seed) (mo_bundleOf := mo_bundleOf) (mo_netsRead := mo_netsRead) (mo_sent := mo_sent) (mo_passagesEver := mo_passagesEver) (mo_astrayEver := mo_astrayEver) (mo_loopsEver := mo_loopsEver) (mo_newNodes := mo_newNodes) (mo_newPairs := mo_newPairs) (mo_due := mo_due) (mo_newOne := mo_newOne) (mo_newFrom := mo_newFrom) (mo_newTo := mo_newTo) (mo_marks := mo_marks) (mo_drawing := mo_drawing) (mo_leftOf := mo_leftOf) (mo_wayMany := mo_wayMany) (mo_wayAt := mo_wayAt) (mo_bitsNow := mo_bitsNow) (mo_passages := mo_passages) (mo_astray := mo_astray) (mo_loops := mo_loops) (mo_steps := mo_steps) (mo_reached := mo_reached) (mo_others := mo_others) (mo_h := mo_h) x1 x2 (o_res := r6) (o_mo_leftOf := mo_leftOf_7) (o_mo_wayMany := mo_wayMany_8) (o_mo_wayAt := mo_wayAt_9) h5) (cwV 2 hts gX6_best_X6_treeOf rfl rfl rfl (by decide +kernel) ⟨Nat.le_of_ble_eq_true rfl, Nat.le_of_ble_eq_true rfl⟩) (ci := 6) rfl rfl rfl hl.1 rfl (Nat.le_of_ble_eq_true rfl) dX6_best_25 ⟨Nat.zero_le _, Nat.zero_le _⟩) (fun H locs hP hD hS => ?_)
      refine lv_iload_n hx hb dX6_best_28 rfl (lv_at hl 3 rfl) ?_
      obtain ⟨⟨r12, mo_bitsNow_13, mo_passages_14, mo_astray_15, mo_loops_16, mo_steps_17, mo_reached_18, mo_others_19⟩, h11, hf⟩ := oo_b hf
      try dsimp only at hf
      have F : Fr D A _ (wdM cI cJ ad mo_pageLength mo_page mo_nodes mo_links mo_fromOf mo_toOf mo_width mo_drawn mo_seed mo_bundleOf mo_netsRead mo_sent mo_passagesEver mo_astrayEver mo_loopsEver mo_newNodes mo_newPairs mo_due mo_newOne mo_newFrom mo_newTo mo_marks mo_drawing mo_leftOf_7 mo_wayMany_8 mo_wayAt_9 mo_bitsNow mo_passages mo_astray mo_loops mo_steps mo_reached mo_others mo_h) (wdM cI cJ ad mo_pageLength mo_page mo_nodes mo_links mo_fromOf mo_toOf mo_width mo_drawn mo_seed mo_bundleOf mo_netsRead mo_sent mo_passagesEver mo_astrayEver mo_loopsEver mo_newNodes mo_newPairs mo_due mo_newOne mo_newFrom mo_newTo mo_marks mo_drawing mo_leftOf_7 mo_wayMany_8 mo_wayAt_9 mo_bitsNow_13 mo_passages_14 mo_astray_15 mo_loops_16 mo_steps_17 mo_reached_18 mo_others_19 mo_h) (wdM cI cJ ad mo_pageLength mo_page mo_nodes mo_links mo_fromOf mo_toOf mo_width mo_drawn mo_seed mo_bundleOf mo_netsRead mo_sent mo_passagesEver mo_astrayEver mo_loopsEver mo_newNodes mo_newPairs mo_due mo_newOne mo_newFrom mo_newTo mo_marks mo_drawing mo_leftOf_7 mo_wayMany_8 mo_wayAt_9 mo_bitsNow_13 mo_passages_14 mo_astray_15 mo_loops_16 mo_steps_17 mo_reached_18 mo_others_19 mo_h) := fr_self hP hD hS hA
      refine kI F hS (rV (q := (RX6, TX6, 34)) (As := [.int x1, .int r6, .int x3]) (rest := []) ⟨hx, hb, hml, hown, hts⟩ hK hN F (c_X6_bestOf l D cI cJ ad _ (mo_pageLength := mo_pageLength) (mo_page := mo_page) (mo_nodes := mo_nodes) (mo_links := mo_links) (mo_fromOf := mo_fromOf) (mo_toOf := mo_toOf) (mo_width := mo_width) (mo_drawn := mo_drawn) (mo_seed := mo_seed) (mo_bundleOf := mo_bundleOf) (mo_netsRead := mo_netsRead) (mo_sent := mo_sent) (mo_passagesEver := mo_passagesEver) (mo_astrayEver := mo_astrayEver) (mo_loopsEver := mo_loopsEver) (mo_newNodes := mo_newNodes) (mo_newPairs := mo_newPairs) (mo_due := mo_due) (mo_newOne := mo_newOne) (mo_newFrom := mo_newFrom) (mo_newTo := mo_newTo) (mo_marks := mo_marks) (mo_drawing := mo_drawing) (mo_leftOf := mo_leftOf_7) (mo_wayMany := mo_wayMany_8) (mo_wayAt := mo_wayAt_9) (mo_bitsNow := mo_bitsNow) (mo_passages := mo_passages) (mo_astray := mo_astray) (mo_loops := mo_loops) (mo_steps := mo_steps) (mo_reached := mo_reached) (mo_others := mo_others) (mo_h := mo_h) x1 r6 x3 (o_res := r12) (o_mo_bitsNow := mo_bitsNow_13) (o_mo_passages := mo_passages_14) (o_mo_astray := mo_astray_15) (o_mo_loops := mo_loops_16) (o_mo_steps := mo_steps_17) (o_mo_reached := mo_reached_18) (o_mo_others := mo_others_19) h11) (cwV 3 hts gX6_best_X6_bestOf rfl rfl rfl (by decide +kernel) ⟨Nat.le_of_ble_eq_true rfl, Nat.le_of_ble_eq_true rfl⟩) (ci := 6) rfl rfl rfl hl.1 rfl (Nat.le_of_ble_eq_true rfl) dX6_best_29 ⟨Nat.zero_le _, Nat.zero_le _⟩) (fun H locs hP hD hS => ?_)
      refine lv_goto (tgt := 38) hx hb dX6_best_32 (by decide) ?_
      cases hf
      exact hret _ _ _ _ dX6_best_38 hP hD hS
  · have hf := oo_t hf c2
    refine lv_sipush (v := (-1001 : Int32)) hx hb dX6_best_8 (by decide) ?_
    cases hf
    exact hret _ _ _ _ dX6_best_11 hP hD hS
def f_X6_sendNow (mo_links : Int32) (mo_fromOf : Nat → Int32) (mo_toOf : Nat → Int32) (mo_bundleOf : Nat → Int32) (mo_sent : Int32) (mo_passagesEver : Int32) (mo_astrayEver : Int32) (mo_loopsEver : Int32) (mo_marks : Nat → Int64) (mo_bitsNow : Int64) (mo_passages : Int32) (mo_astray : Int32) (mo_loops : Int32) (mo_steps : Int32) (mo_reached : Int32) (mo_others : Int32) (x1 : Int32) (x2 : Int32) (x3 : Int32) : Option (Int32 × Int32 × Int32 × Int32 × Int32 × Int64 × Int32 × Int32 × Int32 × Int32 × Int32 × Int32) :=
  Option.bind (f_X6_bestOf mo_links mo_fromOf mo_toOf mo_bundleOf mo_marks mo_bitsNow mo_passages mo_astray mo_loops mo_steps mo_reached mo_others x1 x2 x3) fun (r2, mo_bitsNow_3, mo_passages_4, mo_astray_5, mo_loops_6, mo_steps_7, mo_reached_8, mo_others_9) =>
  Option.bind (f_X6_laySpread mo_links mo_fromOf mo_toOf mo_bundleOf mo_marks x1 x2 r2 x3) fun (mo_bitsNow_12, mo_passages_13, mo_astray_14, mo_loops_15, mo_steps_16, mo_reached_17, mo_others_18) =>
  some (mo_astray_14, (mo_sent + (1 : Int32)), (mo_passagesEver + mo_passages_13), (mo_astrayEver + mo_astray_14), (mo_loopsEver + mo_loops_15), mo_bitsNow_12, mo_passages_13, mo_astray_14, mo_loops_15, mo_steps_16, mo_reached_17, mo_others_18)
abbrev rm_X6_sendNow : Room := { frames := 5, cells := 0, slots := 0, locals := 125 }
set_option maxHeartbeats 4000000 in
set_option maxRecDepth 100000 in
theorem c_X6_sendNow (l : Launch) (D : va_G) (cI cJ : ClassId) (ad : Nat → Nat) (sz : Nat) {mo_pageLength : Int32} {mo_page : Nat → Int32} {mo_nodes mo_links : Int32} {mo_fromOf mo_toOf : Nat → Int32} {mo_width mo_drawn mo_seed : Int32} {mo_bundleOf : Nat → Int32} {mo_netsRead mo_sent mo_passagesEver mo_astrayEver mo_loopsEver mo_newNodes mo_newPairs mo_due mo_newOne : Int32} {mo_newFrom mo_newTo : Nat → Int32} {mo_marks : Nat → Int64} {mo_drawing : Int64} {mo_leftOf : Nat → Int32} {mo_wayMany : Int32} {mo_wayAt : Nat → Int32} {mo_bitsNow : Int64} {mo_passages mo_astray mo_loops mo_steps mo_reached mo_others : Int32} {mo_h : Int64} (x1 : Int32) (x2 : Int32) (x3 : Int32) {o_res : Int32} {o_mo_sent : Int32} {o_mo_passagesEver : Int32} {o_mo_astrayEver : Int32} {o_mo_loopsEver : Int32} {o_mo_bitsNow : Int64} {o_mo_passages : Int32} {o_mo_astray : Int32} {o_mo_loops : Int32} {o_mo_steps : Int32} {o_mo_reached : Int32} {o_mo_others : Int32} (hf : f_X6_sendNow mo_links mo_fromOf mo_toOf mo_bundleOf mo_sent mo_passagesEver mo_astrayEver mo_loopsEver mo_marks mo_bitsNow mo_passages mo_astray mo_loops mo_steps mo_reached mo_others x1 x2 x3 = some (o_res, o_mo_sent, o_mo_passagesEver, o_mo_astrayEver, o_mo_loopsEver, o_mo_bitsNow, o_mo_passages, o_mo_astray, o_mo_loops, o_mo_steps, o_mo_reached, o_mo_others)) : CtI l yX6_sendNow wsX6_sendNow rm_X6_sendNow D cI cJ [.ref (ad 15), .int x1, .int x2, .int x3] (wdM cI cJ ad mo_pageLength mo_page mo_nodes mo_links mo_fromOf mo_toOf mo_width mo_drawn mo_seed mo_bundleOf mo_netsRead mo_sent mo_passagesEver mo_astrayEver mo_loopsEver mo_newNodes mo_newPairs mo_due mo_newOne mo_newFrom mo_newTo mo_marks mo_drawing mo_leftOf mo_wayMany mo_wayAt mo_bitsNow mo_passages mo_astray mo_loops mo_steps mo_reached mo_others mo_h) sz o_res (wdM cI cJ ad mo_pageLength mo_page mo_nodes mo_links mo_fromOf mo_toOf mo_width mo_drawn mo_seed mo_bundleOf mo_netsRead o_mo_sent o_mo_passagesEver o_mo_astrayEver o_mo_loopsEver mo_newNodes mo_newPairs mo_due mo_newOne mo_newFrom mo_newTo mo_marks mo_drawing mo_leftOf mo_wayMany mo_wayAt o_mo_bitsNow o_mo_passages o_mo_astray o_mo_loops o_mo_steps o_mo_reached o_mo_others mo_h) := by
  refine ctI_of (cc := cX6_sendNow) (maxL := 4) (by decide) rfl (Nat.le_of_ble_eq_true rfl) ?_
  intro p e s m below meth c Q A hx hb hml hown hts hK hN hA hret ls hl hP hD hS
  obtain ⟨args, hargs⟩ : ∃ a : Array Value, a = [.ref (ad 15), .int x1, .int x2, .int x3].toArray := ⟨_, rfl⟩
  rw [← hargs] at hts hret ⊢
  have hown : s.vm.findClass RX6 = some m.cls := hown
  have hl : lv_has ls 4 [(0, .ref (ad 15)), (1, .int x1), (2, .int x2), (3, .int x3)] := hl
  have hin_X6 : ∀ w ∈ wsX60, w ∈ wsX6_sendNow := fun _ h => List.mem_cons_of_mem _ (List.mem_append_right _ h)
  have fl_172 : (Cond.fieldLink RX6 172 "FoldedWaysModel" "passages" "I").before args s = true := hat hts 3 rfl
  have fl_175 : (Cond.fieldLink RX6 175 "FoldedWaysModel" "astray" "I").before args s = true := hat hts 5 rfl
  have fl_178 : (Cond.fieldLink RX6 178 "FoldedWaysModel" "loops" "I").before args s = true := hat hts 7 rfl
  have fl_215 : (Cond.fieldLink RX6 215 "FoldedWaysModel" "sent" "I").before args s = true := hat hts 1 rfl
  have fl_218 : (Cond.fieldLink RX6 218 "FoldedWaysModel" "passagesEver" "I").before args s = true := hat hts 2 rfl
  have fl_221 : (Cond.fieldLink RX6 221 "FoldedWaysModel" "astrayEver" "I").before args s = true := hat hts 4 rfl
  have fl_224 : (Cond.fieldLink RX6 224 "FoldedWaysModel" "loopsEver" "I").before args s = true := hat hts 6 rfl
  unfold f_X6_sendNow at hf
  refine lv_aload_n hx hb dX6_sendNow_0 rfl (lv_at hl 0 rfl) ?_
  refine lv_iload_n hx hb dX6_sendNow_1 rfl (lv_at hl 1 rfl) ?_
  refine lv_iload_n hx hb dX6_sendNow_2 rfl (lv_at hl 2 rfl) ?_
  refine lv_aload_n hx hb dX6_sendNow_3 rfl (lv_at hl 0 rfl) ?_
  refine lv_iload_n hx hb dX6_sendNow_4 rfl (lv_at hl 1 rfl) ?_
  refine lv_iload_n hx hb dX6_sendNow_5 rfl (lv_at hl 2 rfl) ?_
  refine lv_iload_n hx hb dX6_sendNow_6 rfl (lv_at hl 3 rfl) ?_
  obtain ⟨⟨r2, mo_bitsNow_3, mo_passages_4, mo_astray_5, mo_loops_6, mo_steps_7, mo_reached_8, mo_others_9⟩, h1, hf⟩ := oo_b hf
  try dsimp only at hf
  have F : Fr D A _ (wdM cI cJ ad mo_pageLength mo_page mo_nodes mo_links mo_fromOf mo_toOf mo_width mo_drawn mo_seed mo_bundleOf mo_netsRead mo_sent mo_passagesEver mo_astrayEver mo_loopsEver mo_newNodes mo_newPairs mo_due mo_newOne mo_newFrom mo_newTo mo_marks mo_drawing mo_leftOf mo_wayMany mo_wayAt mo_bitsNow mo_passages mo_astray mo_loops mo_steps mo_reached mo_others mo_h) (wdM cI cJ ad mo_pageLength mo_page mo_nodes mo_links mo_fromOf mo_toOf mo_width mo_drawn mo_seed mo_bundleOf mo_netsRead mo_sent mo_passagesEver mo_astrayEver mo_loopsEver mo_newNodes mo_newPairs mo_due mo_newOne mo_newFrom mo_newTo mo_marks mo_drawing mo_leftOf mo_wayMany mo_wayAt mo_bitsNow_3 mo_passages_4 mo_astray_5 mo_loops_6 mo_steps_7 mo_reached_8 mo_others_9 mo_h) (wdM cI cJ ad mo_pageLength mo_page mo_nodes mo_links mo_fromOf mo_toOf mo_width mo_drawn mo_seed mo_bundleOf mo_netsRead mo_sent mo_passagesEver mo_astrayEver mo_loopsEver mo_newNodes mo_newPairs mo_due mo_newOne mo_newFrom mo_newTo mo_marks mo_drawing mo_leftOf mo_wayMany mo_wayAt mo_bitsNow_3 mo_passages_4 mo_astray_5 mo_loops_6 mo_steps_7 mo_reached_8 mo_others_9 mo_h) := fr_self hP hD hS hA
  refine kI F hS (rV (q := (RX6, TX6, 34)) (As := [.int x1, .int x2, .int x3]) (rest := [.int x2, .int x1, .ref (ad 15)]) ⟨hx, hb, hml, hown, hts⟩ hK hN F (c_X6_bestOf l D cI cJ ad _ (mo_pageLength := mo_pageLength) (mo_page := mo_page) (mo_nodes := mo_nodes) (mo_links := mo_links) (mo_fromOf := mo_fromOf) (mo_toOf := mo_toOf) (mo_width := mo_width) (mo_drawn := mo_drawn) (mo_seed := mo_seed) (mo_bundleOf := mo_bundleOf) (mo_netsRead := mo_netsRead) (mo_sent := mo_sent) (mo_passagesEver := mo_passagesEver) (mo_astrayEver := mo_astrayEver) (mo_loopsEver := mo_loopsEver) (mo_newNodes := mo_newNodes) (mo_newPairs := mo_newPairs) (mo_due := mo_due) (mo_newOne := mo_newOne) (mo_newFrom := mo_newFrom) (mo_newTo := mo_newTo) (mo_marks := mo_marks) (mo_drawing := mo_drawing) (mo_leftOf := mo_leftOf) (mo_wayMany := mo_wayMany) (mo_wayAt := mo_wayAt) (mo_bitsNow := mo_bitsNow) (mo_passages := mo_passages) (mo_astray := mo_astray) (mo_loops := mo_loops) (mo_steps := mo_steps) (mo_reached := mo_reached) (mo_others := mo_others) (mo_h := mo_h) x1 x2 x3 (o_res := r2) (o_mo_bitsNow := mo_bitsNow_3) (o_mo_passages := mo_passages_4) (o_mo_astray := mo_astray_5) (o_mo_loops := mo_loops_6) (o_mo_steps := mo_steps_7) (o_mo_reached := mo_reached_8) (o_mo_others := mo_others_9) h1) (cwV 3 hts gX6_sendNow_X6_bestOf rfl rfl rfl (by decide +kernel) ⟨Nat.le_of_ble_eq_true rfl, Nat.le_of_ble_eq_true rfl⟩) (ci := 6) rfl rfl rfl hl.1 rfl (Nat.le_of_ble_eq_true rfl) dX6_sendNow_7 ⟨Nat.zero_le _, Nat.zero_le _⟩) (fun H locs hP hD hS => ?_)
  refine lv_iload_n hx hb dX6_sendNow_10 rfl (lv_at hl 3 rfl) ?_
  obtain ⟨⟨mo_bitsNow_12, mo_passages_13, mo_astray_14, mo_loops_15, mo_steps_16, mo_reached_17, mo_others_18⟩, h11, hf⟩ := oo_b hf
  try dsimp only at hf
  have F : Fr D A _ (wdM cI cJ ad mo_pageLength mo_page mo_nodes mo_links mo_fromOf mo_toOf mo_width mo_drawn mo_seed mo_bundleOf mo_netsRead mo_sent mo_passagesEver mo_astrayEver mo_loopsEver mo_newNodes mo_newPairs mo_due mo_newOne mo_newFrom mo_newTo mo_marks mo_drawing mo_leftOf mo_wayMany mo_wayAt mo_bitsNow_3 mo_passages_4 mo_astray_5 mo_loops_6 mo_steps_7 mo_reached_8 mo_others_9 mo_h) (wdM cI cJ ad mo_pageLength mo_page mo_nodes mo_links mo_fromOf mo_toOf mo_width mo_drawn mo_seed mo_bundleOf mo_netsRead mo_sent mo_passagesEver mo_astrayEver mo_loopsEver mo_newNodes mo_newPairs mo_due mo_newOne mo_newFrom mo_newTo mo_marks mo_drawing mo_leftOf mo_wayMany mo_wayAt mo_bitsNow_12 mo_passages_13 mo_astray_14 mo_loops_15 mo_steps_16 mo_reached_17 mo_others_18 mo_h) (wdM cI cJ ad mo_pageLength mo_page mo_nodes mo_links mo_fromOf mo_toOf mo_width mo_drawn mo_seed mo_bundleOf mo_netsRead mo_sent mo_passagesEver mo_astrayEver mo_loopsEver mo_newNodes mo_newPairs mo_due mo_newOne mo_newFrom mo_newTo mo_marks mo_drawing mo_leftOf mo_wayMany mo_wayAt mo_bitsNow_12 mo_passages_13 mo_astray_14 mo_loops_15 mo_steps_16 mo_reached_17 mo_others_18 mo_h) := fr_self hP hD hS hA
  refine kV F hS (rV (q := (RX6, TX6, 34)) (As := [.int x1, .int x2, .int r2, .int x3]) (rest := []) ⟨hx, hb, hml, hown, hts⟩ hK hN F (c_X6_laySpread l D cI cJ ad _ (mo_pageLength := mo_pageLength) (mo_page := mo_page) (mo_nodes := mo_nodes) (mo_links := mo_links) (mo_fromOf := mo_fromOf) (mo_toOf := mo_toOf) (mo_width := mo_width) (mo_drawn := mo_drawn) (mo_seed := mo_seed) (mo_bundleOf := mo_bundleOf) (mo_netsRead := mo_netsRead) (mo_sent := mo_sent) (mo_passagesEver := mo_passagesEver) (mo_astrayEver := mo_astrayEver) (mo_loopsEver := mo_loopsEver) (mo_newNodes := mo_newNodes) (mo_newPairs := mo_newPairs) (mo_due := mo_due) (mo_newOne := mo_newOne) (mo_newFrom := mo_newFrom) (mo_newTo := mo_newTo) (mo_marks := mo_marks) (mo_drawing := mo_drawing) (mo_leftOf := mo_leftOf) (mo_wayMany := mo_wayMany) (mo_wayAt := mo_wayAt) (mo_bitsNow := mo_bitsNow_3) (mo_passages := mo_passages_4) (mo_astray := mo_astray_5) (mo_loops := mo_loops_6) (mo_steps := mo_steps_7) (mo_reached := mo_reached_8) (mo_others := mo_others_9) (mo_h := mo_h) x1 x2 r2 x3 (o_mo_bitsNow := mo_bitsNow_12) (o_mo_passages := mo_passages_13) (o_mo_astray := mo_astray_14) (o_mo_loops := mo_loops_15) (o_mo_steps := mo_steps_16) (o_mo_reached := mo_reached_17) (o_mo_others := mo_others_18) h11) (cwV 4 hts gX6_sendNow_X6_laySpread rfl rfl rfl (by decide +kernel) ⟨Nat.le_of_ble_eq_true rfl, Nat.le_of_ble_eq_true rfl⟩) (ci := 6) rfl rfl rfl hl.1 rfl (Nat.le_of_ble_eq_true rfl) dX6_sendNow_11 ⟨Nat.zero_le _, Nat.zero_le _⟩) (fun H locs hP hD hS => ?_)
  refine lv_aload_n hx hb dX6_sendNow_14 rfl (lv_at hl 0 rfl) ?_
  refine lv_dup hx hb dX6_sendNow_15 rfl ?_
  refine va_get (ci := 6) (v := .int mo_sent) (C := RX6) (T := TX6) (N := 34) hx hb hts hin_X6 hown hK hP 0 rfl rfl 11 (by decide) fl_215 (fun _ h9 => h9) rfl dX6_sendNow_16 ?_
  refine lv_iconst (v := (1 : Int32)) hx hb dX6_sendNow_19 (by decide) ?_
  refine lv_iadd hx hb dX6_sendNow_20 ?_
  refine va_put (ci := 6) (v := .int (mo_sent + (1 : Int32))) (ty := .int) (C := RX6) (T := TX6) (N := 34) hx hb hts hin_X6 tyX6 tyX6_ok nmX6 hown hK hP hD hS 0 rfl rfl 11 (by decide) fl_215 (fun _ h9 => h9) rfl (by decide +kernel) rfl rfl (Nat.le_of_ble_eq_true rfl) dX6_sendNow_21 (fun H locs hP hD hS => ?_)
  have hP : va_P D vwCl (wdM cI cJ ad mo_pageLength mo_page mo_nodes mo_links mo_fromOf mo_toOf mo_width mo_drawn mo_seed mo_bundleOf mo_netsRead (mo_sent + (1 : Int32)) mo_passagesEver mo_astrayEver mo_loopsEver mo_newNodes mo_newPairs mo_due mo_newOne mo_newFrom mo_newTo mo_marks mo_drawing mo_leftOf mo_wayMany mo_wayAt mo_bitsNow_12 mo_passages_13 mo_astray_14 mo_loops_15 mo_steps_16 mo_reached_17 mo_others_18 mo_h) H := hP
  have hD : va_D A (wdM cI cJ ad mo_pageLength mo_page mo_nodes mo_links mo_fromOf mo_toOf mo_width mo_drawn mo_seed mo_bundleOf mo_netsRead (mo_sent + (1 : Int32)) mo_passagesEver mo_astrayEver mo_loopsEver mo_newNodes mo_newPairs mo_due mo_newOne mo_newFrom mo_newTo mo_marks mo_drawing mo_leftOf mo_wayMany mo_wayAt mo_bitsNow_12 mo_passages_13 mo_astray_14 mo_loops_15 mo_steps_16 mo_reached_17 mo_others_18 mo_h) := hD
  refine lv_aload_n hx hb dX6_sendNow_24 rfl (lv_at hl 0 rfl) ?_
  refine lv_dup hx hb dX6_sendNow_25 rfl ?_
  refine va_get (ci := 6) (v := .int mo_passagesEver) (C := RX6) (T := TX6) (N := 34) hx hb hts hin_X6 hown hK hP 0 rfl rfl 12 (by decide) fl_218 (fun _ h9 => h9) rfl dX6_sendNow_26 ?_
  refine lv_aload_n hx hb dX6_sendNow_29 rfl (lv_at hl 0 rfl) ?_
  refine va_get (ci := 6) (v := .int mo_passages_13) (C := RX6) (T := TX6) (N := 34) hx hb hts hin_X6 hown hK hP 0 rfl rfl 27 (by decide) fl_172 (fun _ h9 => h9) rfl dX6_sendNow_30 ?_
  refine lv_iadd hx hb dX6_sendNow_33 ?_
  refine va_put (ci := 6) (v := .int (mo_passagesEver + mo_passages_13)) (ty := .int) (C := RX6) (T := TX6) (N := 34) hx hb hts hin_X6 tyX6 tyX6_ok nmX6 hown hK hP hD hS 0 rfl rfl 12 (by decide) fl_218 (fun _ h9 => h9) rfl (by decide +kernel) rfl rfl (Nat.le_of_ble_eq_true rfl) dX6_sendNow_34 (fun H locs hP hD hS => ?_)
  have hP : va_P D vwCl (wdM cI cJ ad mo_pageLength mo_page mo_nodes mo_links mo_fromOf mo_toOf mo_width mo_drawn mo_seed mo_bundleOf mo_netsRead (mo_sent + (1 : Int32)) (mo_passagesEver + mo_passages_13) mo_astrayEver mo_loopsEver mo_newNodes mo_newPairs mo_due mo_newOne mo_newFrom mo_newTo mo_marks mo_drawing mo_leftOf mo_wayMany mo_wayAt mo_bitsNow_12 mo_passages_13 mo_astray_14 mo_loops_15 mo_steps_16 mo_reached_17 mo_others_18 mo_h) H := hP
  have hD : va_D A (wdM cI cJ ad mo_pageLength mo_page mo_nodes mo_links mo_fromOf mo_toOf mo_width mo_drawn mo_seed mo_bundleOf mo_netsRead (mo_sent + (1 : Int32)) (mo_passagesEver + mo_passages_13) mo_astrayEver mo_loopsEver mo_newNodes mo_newPairs mo_due mo_newOne mo_newFrom mo_newTo mo_marks mo_drawing mo_leftOf mo_wayMany mo_wayAt mo_bitsNow_12 mo_passages_13 mo_astray_14 mo_loops_15 mo_steps_16 mo_reached_17 mo_others_18 mo_h) := hD
  refine lv_aload_n hx hb dX6_sendNow_37 rfl (lv_at hl 0 rfl) ?_
  refine lv_dup hx hb dX6_sendNow_38 rfl ?_
  refine va_get (ci := 6) (v := .int mo_astrayEver) (C := RX6) (T := TX6) (N := 34) hx hb hts hin_X6 hown hK hP 0 rfl rfl 13 (by decide) fl_221 (fun _ h9 => h9) rfl dX6_sendNow_39 ?_
  refine lv_aload_n hx hb dX6_sendNow_42 rfl (lv_at hl 0 rfl) ?_
  refine va_get (ci := 6) (v := .int mo_astray_14) (C := RX6) (T := TX6) (N := 34) hx hb hts hin_X6 hown hK hP 0 rfl rfl 28 (by decide) fl_175 (fun _ h9 => h9) rfl dX6_sendNow_43 ?_
  refine lv_iadd hx hb dX6_sendNow_46 ?_
  refine va_put (ci := 6) (v := .int (mo_astrayEver + mo_astray_14)) (ty := .int) (C := RX6) (T := TX6) (N := 34) hx hb hts hin_X6 tyX6 tyX6_ok nmX6 hown hK hP hD hS 0 rfl rfl 13 (by decide) fl_221 (fun _ h9 => h9) rfl (by decide +kernel) rfl rfl (Nat.le_of_ble_eq_true rfl) dX6_sendNow_47 (fun H locs hP hD hS => ?_)
  have hP : va_P D vwCl (wdM cI cJ ad mo_pageLength mo_page mo_nodes mo_links mo_fromOf mo_toOf mo_width mo_drawn mo_seed mo_bundleOf mo_netsRead (mo_sent + (1 : Int32)) (mo_passagesEver + mo_passages_13) (mo_astrayEver + mo_astray_14) mo_loopsEver mo_newNodes mo_newPairs mo_due mo_newOne mo_newFrom mo_newTo mo_marks mo_drawing mo_leftOf mo_wayMany mo_wayAt mo_bitsNow_12 mo_passages_13 mo_astray_14 mo_loops_15 mo_steps_16 mo_reached_17 mo_others_18 mo_h) H := hP
  have hD : va_D A (wdM cI cJ ad mo_pageLength mo_page mo_nodes mo_links mo_fromOf mo_toOf mo_width mo_drawn mo_seed mo_bundleOf mo_netsRead (mo_sent + (1 : Int32)) (mo_passagesEver + mo_passages_13) (mo_astrayEver + mo_astray_14) mo_loopsEver mo_newNodes mo_newPairs mo_due mo_newOne mo_newFrom mo_newTo mo_marks mo_drawing mo_leftOf mo_wayMany mo_wayAt mo_bitsNow_12 mo_passages_13 mo_astray_14 mo_loops_15 mo_steps_16 mo_reached_17 mo_others_18 mo_h) := hD
  refine lv_aload_n hx hb dX6_sendNow_50 rfl (lv_at hl 0 rfl) ?_
  refine lv_dup hx hb dX6_sendNow_51 rfl ?_
  refine va_get (ci := 6) (v := .int mo_loopsEver) (C := RX6) (T := TX6) (N := 34) hx hb hts hin_X6 hown hK hP 0 rfl rfl 14 (by decide) fl_224 (fun _ h9 => h9) rfl dX6_sendNow_52 ?_
  refine lv_aload_n hx hb dX6_sendNow_55 rfl (lv_at hl 0 rfl) ?_
  refine va_get (ci := 6) (v := .int mo_loops_15) (C := RX6) (T := TX6) (N := 34) hx hb hts hin_X6 hown hK hP 0 rfl rfl 29 (by decide) fl_178 (fun _ h9 => h9) rfl dX6_sendNow_56 ?_
  refine lv_iadd hx hb dX6_sendNow_59 ?_
  refine va_put (ci := 6) (v := .int (mo_loopsEver + mo_loops_15)) (ty := .int) (C := RX6) (T := TX6) (N := 34) hx hb hts hin_X6 tyX6 tyX6_ok nmX6 hown hK hP hD hS 0 rfl rfl 14 (by decide) fl_224 (fun _ h9 => h9) rfl (by decide +kernel) rfl rfl (Nat.le_of_ble_eq_true rfl) dX6_sendNow_60 (fun H locs hP hD hS => ?_)
  have hP : va_P D vwCl (wdM cI cJ ad mo_pageLength mo_page mo_nodes mo_links mo_fromOf mo_toOf mo_width mo_drawn mo_seed mo_bundleOf mo_netsRead (mo_sent + (1 : Int32)) (mo_passagesEver + mo_passages_13) (mo_astrayEver + mo_astray_14) (mo_loopsEver + mo_loops_15) mo_newNodes mo_newPairs mo_due mo_newOne mo_newFrom mo_newTo mo_marks mo_drawing mo_leftOf mo_wayMany mo_wayAt mo_bitsNow_12 mo_passages_13 mo_astray_14 mo_loops_15 mo_steps_16 mo_reached_17 mo_others_18 mo_h) H := hP
  have hD : va_D A (wdM cI cJ ad mo_pageLength mo_page mo_nodes mo_links mo_fromOf mo_toOf mo_width mo_drawn mo_seed mo_bundleOf mo_netsRead (mo_sent + (1 : Int32)) (mo_passagesEver + mo_passages_13) (mo_astrayEver + mo_astray_14) (mo_loopsEver + mo_loops_15) mo_newNodes mo_newPairs mo_due mo_newOne mo_newFrom mo_newTo mo_marks mo_drawing mo_leftOf mo_wayMany mo_wayAt mo_bitsNow_12 mo_passages_13 mo_astray_14 mo_loops_15 mo_steps_16 mo_reached_17 mo_others_18 mo_h) := hD
  refine lv_aload_n hx hb dX6_sendNow_63 rfl (lv_at hl 0 rfl) ?_
  refine va_get (ci := 6) (v := .int mo_astray_14) (C := RX6) (T := TX6) (N := 34) hx hb hts hin_X6 hown hK hP 0 rfl rfl 28 (by decide) fl_175 (fun _ h9 => h9) rfl dX6_sendNow_64 ?_
  cases hf
  exact hret _ _ _ _ dX6_sendNow_67 hP hD hS
