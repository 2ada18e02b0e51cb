def f_X6_goStep_L6 (mo_links : Int32) (mo_fromOf : Nat → Int32) (mo_toOf : Nat → Int32) (mo_bundleOf : Nat → Int32) (mo_marks : Nat → Int64) (mo_bitsNow : Int64) (mo_reached : Int32) (x1 : Int32) (x2 : Int32) (x3 : Int32) : Nat → Int32 → Int32 → Int32 → Int32 → Int32 → Option (Int32 × Int32 × Int32 × Int32)
  | 0, _, _, _, _, _ => none
  | n + 1, mo_passages_a6, mo_astray_a6, mo_loops_a6, x4_a6, x5_a6 =>
      if mo_links ≤ x5_a6 then
        some (mo_passages_a6, mo_astray_a6, mo_loops_a6, x4_a6)
      else
        if x5_a6 < 0 ∨ 16 ≤ (x5_a6).toNatClampNeg then none else
        Option.bind (α := Int32 × Int32 × Int32 × Int32) (if (f_X6_has x1 (mo_fromOf (x5_a6).toNatClampNeg)) = (0 : Int32) then
            some (mo_passages_a6, mo_astray_a6, mo_loops_a6, x4_a6)
          else
            Option.bind (f_X6_matches mo_bundleOf mo_marks x5_a6 mo_bitsNow x3) fun r17 =>
            if r17 = (0 : Int32) then
              some (mo_passages_a6, mo_astray_a6, mo_loops_a6, x4_a6)
            else
              Option.bind (α := Int32) (if (if (f_X6_has (mo_reached ||| x4_a6) (mo_toOf (x5_a6).toNatClampNeg)) = (0 : Int32) then (1 : Int32) else (0 : Int32)) = (0 : Int32) then
                  some (0 : Int32)
                else
                  some ((1 : Int32) <<< ((mo_toOf (x5_a6).toNatClampNeg) &&& 31))) fun k_27 =>
              Option.bind (α := Int32) (if (if (f_X6_has (mo_reached ||| x4_a6) (mo_toOf (x5_a6).toNatClampNeg)) = (0 : Int32) then (1 : Int32) else (0 : Int32)) = (0 : Int32) then
                  some (1 : Int32)
                else
                  some (0 : Int32)) fun k_30 =>
              some ((mo_passages_a6 + (1 : Int32)), (mo_astray_a6 + (if (f_X6_has x2 x5_a6) = (0 : Int32) then (1 : Int32) else (0 : Int32))), (mo_loops_a6 + k_30), (x4_a6 ||| k_27))) fun (mo_passages_9, mo_astray_10, mo_loops_11, x4_12) =>
        f_X6_goStep_L6 mo_links mo_fromOf mo_toOf mo_bundleOf mo_marks mo_bitsNow mo_reached x1 x2 x3 n mo_passages_9 mo_astray_10 mo_loops_11 x4_12 (x5_a6 + (1 : Int32))
theorem f_X6_goStep_L6_s (mo_links : Int32) (mo_fromOf : Nat → Int32) (mo_toOf : Nat → Int32) (mo_bundleOf : Nat → Int32) (mo_marks : Nat → Int64) (mo_bitsNow : Int64) (mo_reached : Int32) (x1 : Int32) (x2 : Int32) (x3 : Int32) (n : Nat) (mo_passages_a6 : Int32) (mo_astray_a6 : Int32) (mo_loops_a6 : Int32) (x4_a6 : Int32) (x5_a6 : Int32) : f_X6_goStep_L6 mo_links mo_fromOf mo_toOf mo_bundleOf mo_marks mo_bitsNow mo_reached x1 x2 x3 (n + 1) mo_passages_a6 mo_astray_a6 mo_loops_a6 x4_a6 x5_a6 =
      (if mo_links ≤ x5_a6 then
        some (mo_passages_a6, mo_astray_a6, mo_loops_a6, x4_a6)
      else
        if x5_a6 < 0 ∨ 16 ≤ (x5_a6).toNatClampNeg then none else
        Option.bind (α := Int32 × Int32 × Int32 × Int32) (if (f_X6_has x1 (mo_fromOf (x5_a6).toNatClampNeg)) = (0 : Int32) then
            some (mo_passages_a6, mo_astray_a6, mo_loops_a6, x4_a6)
          else
            Option.bind (f_X6_matches mo_bundleOf mo_marks x5_a6 mo_bitsNow x3) fun r17 =>
            if r17 = (0 : Int32) then
              some (mo_passages_a6, mo_astray_a6, mo_loops_a6, x4_a6)
            else
              Option.bind (α := Int32) (if (if (f_X6_has (mo_reached ||| x4_a6) (mo_toOf (x5_a6).toNatClampNeg)) = (0 : Int32) then (1 : Int32) else (0 : Int32)) = (0 : Int32) then
                  some (0 : Int32)
                else
                  some ((1 : Int32) <<< ((mo_toOf (x5_a6).toNatClampNeg) &&& 31))) fun k_27 =>
              Option.bind (α := Int32) (if (if (f_X6_has (mo_reached ||| x4_a6) (mo_toOf (x5_a6).toNatClampNeg)) = (0 : Int32) then (1 : Int32) else (0 : Int32)) = (0 : Int32) then
                  some (1 : Int32)
                else
                  some (0 : Int32)) fun k_30 =>
              some ((mo_passages_a6 + (1 : Int32)), (mo_astray_a6 + (if (f_X6_has x2 x5_a6) = (0 : Int32) then (1 : Int32) else (0 : Int32))), (mo_loops_a6 + k_30), (x4_a6 ||| k_27))) fun (mo_passages_9, mo_astray_10, mo_loops_11, x4_12) =>
        f_X6_goStep_L6 mo_links mo_fromOf mo_toOf mo_bundleOf mo_marks mo_bitsNow mo_reached x1 x2 x3 n mo_passages_9 mo_astray_10 mo_loops_11 x4_12 (x5_a6 + (1 : Int32))) := rfl
def f_X6_goStep (mo_links : Int32) (mo_fromOf : Nat → Int32) (mo_toOf : Nat → Int32) (mo_bundleOf : Nat → Int32) (mo_marks : Nat → Int64) (mo_bitsNow : Int64) (mo_passages : Int32) (mo_astray : Int32) (mo_loops : Int32) (mo_reached : Int32) (x1 : Int32) (x2 : Int32) (x3 : Int32) : Option (Int32 × Int32 × Int32 × Int32 × Int32) :=
  Option.bind (f_X6_goStep_L6 mo_links mo_fromOf mo_toOf mo_bundleOf mo_marks mo_bitsNow mo_reached x1 x2 x3 100 mo_passages mo_astray mo_loops (0 : Int32) (0 : Int32)) fun (mo_passages_o1, mo_astray_o2, mo_loops_o3, x4_o4) =>
  some (x4_o4, mo_passages_o1, mo_astray_o2, mo_loops_o3, (mo_reached ||| x4_o4))
abbrev rm_X6_goStep : Room := { frames := 2, cells := 0, slots := 0, locals := 47 }
set_option maxHeartbeats 4000000 in
set_option maxRecDepth 100000 in
theorem c_X6_goStep (l : Launch) (D : va_G) (cI cJ : ClassId) (ad : Nat → Nat) (sz : Nat) {mo_pageLength : Int32} {mo_page : Nat → Int32} {mo_nodes mo_links : Int32} {mo_fromOf mo_toOf : Nat → Int32} {mo_width mo_drawn mo_seed : Int32} {mo_bundleOf : Nat → Int32} {mo_netsRead mo_sent mo_passagesEver mo_astrayEver mo_loopsEver mo_newNodes mo_newPairs mo_due mo_newOne : Int32} {mo_newFrom mo_newTo : Nat → Int32} {mo_marks : Nat → Int64} {mo_drawing : Int64} {mo_leftOf : Nat → Int32} {mo_wayMany : Int32} {mo_wayAt : Nat → Int32} {mo_bitsNow : Int64} {mo_passages mo_astray mo_loops mo_steps mo_reached mo_others : Int32} {mo_h : Int64} (x1 : Int32) (x2 : Int32) (x3 : Int32) {o_res : Int32} {o_mo_passages : Int32} {o_mo_astray : Int32} {o_mo_loops : Int32} {o_mo_reached : Int32} (hf : f_X6_goStep mo_links mo_fromOf mo_toOf mo_bundleOf mo_marks mo_bitsNow mo_passages mo_astray mo_loops mo_reached x1 x2 x3 = some (o_res, o_mo_passages, o_mo_astray, o_mo_loops, o_mo_reached)) : CtI l yX6_goStep wsX6_goStep rm_X6_goStep D cI cJ [.ref (ad 15), .int x1, .int x2, .int x3] (wdM cI cJ ad mo_pageLength mo_page mo_nodes mo_links mo_fromOf mo_toOf mo_width mo_drawn mo_seed mo_bundleOf mo_netsRead mo_sent mo_passagesEver mo_astrayEver mo_loopsEver mo_newNodes mo_newPairs mo_due mo_newOne mo_newFrom mo_newTo mo_marks mo_drawing mo_leftOf mo_wayMany mo_wayAt mo_bitsNow mo_passages mo_astray mo_loops mo_steps mo_reached mo_others mo_h) sz o_res (wdM cI cJ ad mo_pageLength mo_page mo_nodes mo_links mo_fromOf mo_toOf mo_width mo_drawn mo_seed mo_bundleOf mo_netsRead mo_sent mo_passagesEver mo_astrayEver mo_loopsEver mo_newNodes mo_newPairs mo_due mo_newOne mo_newFrom mo_newTo mo_marks mo_drawing mo_leftOf mo_wayMany mo_wayAt mo_bitsNow o_mo_passages o_mo_astray o_mo_loops mo_steps o_mo_reached mo_others mo_h) := by
  refine ctI_of (cc := cX6_goStep) (maxL := 7) (by decide) rfl (Nat.le_of_ble_eq_true rfl) ?_
  intro p e s m below meth c Q A hx hb hml hown hts hK hN hA hret ls hl hP hD hS
  obtain ⟨args, hargs⟩ : ∃ a : Array Value, a = [.ref (ad 15), .int x1, .int x2, .int x3].toArray := ⟨_, rfl⟩
  rw [← hargs] at hts hret ⊢
  have hown : s.vm.findClass RX6 = some m.cls := hown
  have hl : lv_has ls 7 [(0, .ref (ad 15)), (1, .int x1), (2, .int x2), (3, .int x3)] := hl
  have hin_X6 : ∀ w ∈ wsX60, w ∈ wsX6_goStep := fun _ h => List.mem_cons_of_mem _ (List.mem_append_right _ h)
  have fl_13 : (Cond.fieldLink RX6 13 "FoldedWaysModel" "fromOf" "[I").before args s = true := hat hts 2 rfl
  have fl_16 : (Cond.fieldLink RX6 16 "FoldedWaysModel" "toOf" "[I").before args s = true := hat hts 7 rfl
  have fl_85 : (Cond.fieldLink RX6 85 "FoldedWaysModel" "links" "I").before args s = true := hat hts 1 rfl
  have fl_169 : (Cond.fieldLink RX6 169 "FoldedWaysModel" "bitsNow" "J").before args s = true := hat hts 3 rfl
  have fl_172 : (Cond.fieldLink RX6 172 "FoldedWaysModel" "passages" "I").before args s = true := hat hts 4 rfl
  have fl_175 : (Cond.fieldLink RX6 175 "FoldedWaysModel" "astray" "I").before args s = true := hat hts 5 rfl
  have fl_178 : (Cond.fieldLink RX6 178 "FoldedWaysModel" "loops" "I").before args s = true := hat hts 8 rfl
  have fl_191 : (Cond.fieldLink RX6 191 "FoldedWaysModel" "reached" "I").before args s = true := hat hts 6 rfl
  unfold f_X6_goStep at hf
  refine lv_iconst (v := (0 : Int32)) hx hb dX6_goStep_0 (by decide) ?_
  refine lv_istore (lv' := [(4, .int (0 : Int32)), (0, .ref (ad 15)), (1, .int x1), (2, .int x2), (3, .int x3)]) hx hb dX6_goStep_1 hl (by decide) rfl (fun ls hl => ?_)
  refine lv_iconst (v := (0 : Int32)) hx hb dX6_goStep_3 (by decide) ?_
  refine lv_istore (lv' := [(5, .int (0 : Int32)), (4, .int (0 : Int32)), (0, .ref (ad 15)), (1, .int x1), (2, .int x2), (3, .int x3)]) hx hb dX6_goStep_4 hl (by decide) rfl (fun ls hl => ?_)
  have lp5 : ∀ (n : Nat) (mo_passages_a6 : Int32) (mo_astray_a6 : Int32) (mo_loops_a6 : Int32) (x4_a6 : Int32) (x5_a6 : Int32) (mo_passages_o1 : Int32) (mo_astray_o2 : Int32) (mo_loops_o3 : Int32) (x4_o4 : Int32), f_X6_goStep_L6 mo_links mo_fromOf mo_toOf mo_bundleOf mo_marks mo_bitsNow mo_reached x1 x2 x3 n mo_passages_a6 mo_astray_a6 mo_loops_a6 x4_a6 x5_a6 = some (mo_passages_o1, mo_astray_o2, mo_loops_o3, x4_o4) → (∀ (H : Heap) (locs : List Loc) (ls : Array Slot), va_P D vwCl (wdM cI cJ ad mo_pageLength mo_page mo_nodes mo_links mo_fromOf mo_toOf mo_width mo_drawn mo_seed mo_bundleOf mo_netsRead mo_sent mo_passagesEver mo_astrayEver mo_loopsEver mo_newNodes mo_newPairs mo_due mo_newOne mo_newFrom mo_newTo mo_marks mo_drawing mo_leftOf mo_wayMany mo_wayAt mo_bitsNow mo_passages_o1 mo_astray_o2 mo_loops_o3 mo_steps mo_reached mo_others mo_h) H → va_D A (wdM cI cJ ad mo_pageLength mo_page mo_nodes mo_links mo_fromOf mo_toOf mo_width mo_drawn mo_seed mo_bundleOf mo_netsRead mo_sent mo_passagesEver mo_astrayEver mo_loopsEver mo_newNodes mo_newPairs mo_due mo_newOne mo_newFrom mo_newTo mo_marks mo_drawing mo_leftOf mo_wayMany mo_wayAt mo_bitsNow mo_passages_o1 mo_astray_o2 mo_loops_o3 mo_steps mo_reached mo_others mo_h) → va_S A s.heap H locs → lv_has ls 7 [(0, .ref (ad 15)), (4, .int x4_o4)] → W p l e rm_X6_goStep s m args below meth c H locs 0 0 Q (F0 m 151 ls [])) → ∀ (H : Heap) (locs : List Loc) (ls : Array Slot), va_P D vwCl (wdM cI cJ ad mo_pageLength mo_page mo_nodes mo_links mo_fromOf mo_toOf mo_width mo_drawn mo_seed mo_bundleOf mo_netsRead mo_sent mo_passagesEver mo_astrayEver mo_loopsEver mo_newNodes mo_newPairs mo_due mo_newOne mo_newFrom mo_newTo mo_marks mo_drawing mo_leftOf mo_wayMany mo_wayAt mo_bitsNow mo_passages_a6 mo_astray_a6 mo_loops_a6 mo_steps mo_reached mo_others mo_h) H → va_D A (wdM cI cJ ad mo_pageLength mo_page mo_nodes mo_links mo_fromOf mo_toOf mo_width mo_drawn mo_seed mo_bundleOf mo_netsRead mo_sent mo_passagesEver mo_astrayEver mo_loopsEver mo_newNodes mo_newPairs mo_due mo_newOne mo_newFrom mo_newTo mo_marks mo_drawing mo_leftOf mo_wayMany mo_wayAt mo_bitsNow mo_passages_a6 mo_astray_a6 mo_loops_a6 mo_steps mo_reached mo_others mo_h) → va_S A s.heap H locs → lv_has ls 7 [(0, .ref (ad 15)), (1, .int x1), (2, .int x2), (3, .int x3), (4, .int x4_a6), (5, .int x5_a6)] → W p l e rm_X6_goStep s m args below meth c H locs 0 0 Q (F0 m 6 ls []) := by
    intro n
    induction n with
    | zero =>
      intro mo_passages_a6 mo_astray_a6 mo_loops_a6 x4_a6 x5_a6 mo_passages_o1 mo_astray_o2 mo_loops_o3 x4_o4 h0
      exact oo_n h0
    | succ n ih =>
      intro mo_passages_a6 mo_astray_a6 mo_loops_a6 x4_a6 x5_a6 mo_passages_o1 mo_astray_o2 mo_loops_o3 x4_o4 hf kk H locs ls hP hD hS hl
      rw [f_X6_goStep_L6_s] at hf
      refine lv_iload hx hb dX6_goStep_6 (lv_at hl 5 rfl) ?_
      refine lv_aload_n hx hb dX6_goStep_8 rfl (lv_at hl 0 rfl) ?_
      refine va_get (ci := 6) (v := .int mo_links) (C := RX6) (T := TX6) (N := 34) hx hb hts hin_X6 hown hK hP 0 rfl rfl 3 (by decide) fl_85 (fun _ h9 => h9) rfl dX6_goStep_9 ?_
      refine lv_icmp_ge (tgt := 151) hx hb dX6_goStep_12 (by decide) (fun c6 => ?_) (fun c6 => ?_)
      · have hf := oo_t hf c6
        cases hf
        exact kk _ _ _ hP hD hS (lv_sub hl [0, 4] rfl)
      · have hf := oo_f hf c6
        refine lv_iload_n hx hb dX6_goStep_15 rfl (lv_at hl 1 rfl) ?_
        refine lv_aload_n hx hb dX6_goStep_16 rfl (lv_at hl 0 rfl) ?_
        refine va_get (ci := 6) (v := .ref (ad 17)) (C := RX6) (T := TX6) (N := 34) hx hb hts hin_X6 hown hK hP 0 rfl rfl 4 (by decide) fl_13 (fun _ h9 => h9) rfl dX6_goStep_17 ?_
        refine lv_iload hx hb dX6_goStep_20 (lv_at hl 5 rfl) ?_
        obtain ⟨g7, hf⟩ := oo_g hf
        refine va_iald hx hb hK hP 2 0 rfl rfl g7 dX6_goStep_22 ?_
        have F : Fr D A _ [] [] (wdM cI cJ ad mo_pageLength mo_page mo_nodes mo_links mo_fromOf mo_toOf mo_width mo_drawn mo_seed mo_bundleOf mo_netsRead mo_sent mo_passagesEver mo_astrayEver mo_loopsEver mo_newNodes mo_newPairs mo_due mo_newOne mo_newFrom mo_newTo mo_marks mo_drawing mo_leftOf mo_wayMany mo_wayAt mo_bitsNow mo_passages_a6 mo_astray_a6 mo_loops_a6 mo_steps mo_reached mo_others mo_h) := fr_nil hP hD hS hA
        refine kZ F hS (rS (As := [.int x1, .int (mo_fromOf (x5_a6).toNatClampNeg)]) (rest := []) ⟨hx, hb, hml, hown, hts⟩ hK hN F (c_X6_has l D cI cJ ad _  x1 (mo_fromOf (x5_a6).toNatClampNeg) (o_res := (f_X6_has x1 (mo_fromOf (x5_a6).toNatClampNeg))) rfl) (cwS 2 hts gX6_goStep_X6_has rfl rfl rfl (by decide +kernel) ⟨Nat.le_of_ble_eq_true rfl, Nat.le_of_ble_eq_true rfl⟩) rfl hl.1 rfl (Nat.le_of_ble_eq_true rfl) dX6_goStep_23 ⟨Nat.zero_le _, Nat.zero_le _⟩) (fun H locs hb8 hP hD hS => ?_)
        obtain ⟨⟨mo_passages_9, mo_astray_10, mo_loops_11, x4_12⟩, hj14, hf⟩ := oo_b hf
        try dsimp only at hf
        have kj13 : ∀ (H : Heap) (locs : List Loc) (ls : Array Slot), va_P D vwCl (wdM cI cJ ad mo_pageLength mo_page mo_nodes mo_links mo_fromOf mo_toOf mo_width mo_drawn mo_seed mo_bundleOf mo_netsRead mo_sent mo_passagesEver mo_astrayEver mo_loopsEver mo_newNodes mo_newPairs mo_due mo_newOne mo_newFrom mo_newTo mo_marks mo_drawing mo_leftOf mo_wayMany mo_wayAt mo_bitsNow mo_passages_9 mo_astray_10 mo_loops_11 mo_steps mo_reached mo_others mo_h) H → va_D A (wdM cI cJ ad mo_pageLength mo_page mo_nodes mo_links mo_fromOf mo_toOf mo_width mo_drawn mo_seed mo_bundleOf mo_netsRead mo_sent mo_passagesEver mo_astrayEver mo_loopsEver mo_newNodes mo_newPairs mo_due mo_newOne mo_newFrom mo_newTo mo_marks mo_drawing mo_leftOf mo_wayMany mo_wayAt mo_bitsNow mo_passages_9 mo_astray_10 mo_loops_11 mo_steps mo_reached mo_others mo_h) → va_S A s.heap H locs → lv_has ls 7 [(0, .ref (ad 15)), (1, .int x1), (2, .int x2), (3, .int x3), (4, .int x4_12), (5, .int x5_a6)] → W p l e rm_X6_goStep s m args below meth c H locs 0 0 Q (F0 m 145 ls []) := by
          intro H locs ls hP hD hS hl
          refine lv_iinc (v := (x5_a6 + (1 : Int32))) (lv' := [(5, .int (x5_a6 + (1 : Int32))), (0, .ref (ad 15)), (1, .int x1), (2, .int x2), (3, .int x3), (4, .int x4_12)]) hx hb dX6_goStep_145 hl (k := 5) rfl rfl (by decide) rfl (fun ls hl => ?_)
          refine lv_goto (tgt := 6) hx hb dX6_goStep_148 (by decide) ?_
          exact ih mo_passages_9 mo_astray_10 mo_loops_11 x4_12 (x5_a6 + (1 : Int32)) _ _ _ _ hf kk _ _ _ hP hD hS (lv_sub hl [1, 2, 3, 4, 5, 0] rfl)
        clear hf
        have hf := hj14
        clear hj14
        refine lv_if_eq (tgt := 145) hx hb dX6_goStep_26 (by decide) (fun c15 => ?_) (fun c15 => ?_)
        · have hf := oo_t hf c15
          cases hf
          exact kj13 _ _ _ hP hD hS (lv_sub hl [0, 1, 2, 3, 4, 5] rfl)
        · have hf := oo_f hf c15
          refine lv_aload_n hx hb dX6_goStep_29 rfl (lv_at hl 0 rfl) ?_
          refine lv_iload hx hb dX6_goStep_30 (lv_at hl 5 rfl) ?_
          refine lv_aload_n hx hb dX6_goStep_32 rfl (lv_at hl 0 rfl) ?_
          refine va_get (ci := 6) (v := .long mo_bitsNow) (C := RX6) (T := TX6) (N := 34) hx hb hts hin_X6 hown hK hP 0 rfl rfl 26 (by decide) fl_169 (fun _ h9 => h9) rfl dX6_goStep_33 ?_
          refine lv_iload_n hx hb dX6_goStep_36 rfl (lv_at hl 3 rfl) ?_
          obtain ⟨r17, h16, hf⟩ := oo_b hf
          try dsimp only at hf
          have F : Fr D A _ (wdM cI cJ ad mo_pageLength mo_page mo_nodes mo_links mo_fromOf mo_toOf mo_width mo_drawn mo_seed mo_bundleOf mo_netsRead mo_sent mo_passagesEver mo_astrayEver mo_loopsEver mo_newNodes mo_newPairs mo_due mo_newOne mo_newFrom mo_newTo mo_marks mo_drawing mo_leftOf mo_wayMany mo_wayAt mo_bitsNow mo_passages_a6 mo_astray_a6 mo_loops_a6 mo_steps mo_reached mo_others mo_h) (wdM cI cJ ad mo_pageLength mo_page mo_nodes mo_links mo_fromOf mo_toOf mo_width mo_drawn mo_seed mo_bundleOf mo_netsRead mo_sent mo_passagesEver mo_astrayEver mo_loopsEver mo_newNodes mo_newPairs mo_due mo_newOne mo_newFrom mo_newTo mo_marks mo_drawing mo_leftOf mo_wayMany mo_wayAt mo_bitsNow mo_passages_a6 mo_astray_a6 mo_loops_a6 mo_steps mo_reached mo_others mo_h) (wdM cI cJ ad mo_pageLength mo_page mo_nodes mo_links mo_fromOf mo_toOf mo_width mo_drawn mo_seed mo_bundleOf mo_netsRead mo_sent mo_passagesEver mo_astrayEver mo_loopsEver mo_newNodes mo_newPairs mo_due mo_newOne mo_newFrom mo_newTo mo_marks mo_drawing mo_leftOf mo_wayMany mo_wayAt mo_bitsNow mo_passages_a6 mo_astray_a6 mo_loops_a6 mo_steps mo_reached mo_others mo_h) := fr_self hP hD hS hA
          refine kZ F hS (rV (q := (RX6, TX6, 34)) (As := [.int x5_a6, .long mo_bitsNow, .int x3]) (rest := []) ⟨hx, hb, hml, hown, hts⟩ hK hN F (c_X6_matches l D cI cJ ad _ (mo_pageLength := mo_pageLength) (mo_page := mo_page) (mo_nodes := mo_nodes) (mo_links := mo_links) (mo_fromOf := mo_fromOf) (mo_toOf := mo_toOf) (mo_width := mo_width) (mo_drawn := mo_drawn) (mo_seed := mo_seed) (mo_bundleOf := mo_bundleOf) (mo_netsRead := mo_netsRead) (mo_sent := mo_sent) (mo_passagesEver := mo_passagesEver) (mo_astrayEver := mo_astrayEver) (mo_loopsEver := mo_loopsEver) (mo_newNodes := mo_newNodes) (mo_newPairs := mo_newPairs) (mo_due := mo_due) (mo_newOne := mo_newOne) (mo_newFrom := mo_newFrom) (mo_newTo := mo_newTo) (mo_marks := mo_marks) (mo_drawing := mo_drawing) (mo_leftOf := mo_leftOf) (mo_wayMany := mo_wayMany) (mo_wayAt := mo_wayAt) (mo_bitsNow := mo_bitsNow) (mo_passages := mo_passages_a6) (mo_astray := mo_astray_a6) (mo_loops := mo_loops_a6) (mo_steps := mo_steps) (mo_reached := mo_reached) (mo_others := mo_others) (mo_h := mo_h) x5_a6 mo_bitsNow x3 (o_res := r17) h16) (cwV 3 hts gX6_goStep_X6_matches rfl rfl rfl (by decide +kernel) ⟨Nat.le_of_ble_eq_true rfl, Nat.le_of_ble_eq_true rfl⟩) (ci := 6) rfl rfl rfl hl.1 rfl (Nat.le_of_ble_eq_true rfl) dX6_goStep_37 ⟨Nat.zero_le _, Nat.zero_le _⟩) (fun H locs hb18 hP hD hS => ?_)
          refine lv_if_eq (tgt := 145) hx hb dX6_goStep_40 (by decide) (fun c19 => ?_) (fun c19 => ?_)
          · have hf := oo_t hf c19
            cases hf
            exact kj13 _ _ _ hP hD hS (lv_sub hl [0, 1, 2, 3, 4, 5] rfl)
          · have hf := oo_f hf c19
            refine lv_aload_n hx hb dX6_goStep_43 rfl (lv_at hl 0 rfl) ?_
            refine lv_dup hx hb dX6_goStep_44 rfl ?_
            refine va_get (ci := 6) (v := .int mo_passages_a6) (C := RX6) (T := TX6) (N := 34) hx hb hts hin_X6 hown hK hP 0 rfl rfl 27 (by decide) fl_172 (fun _ h9 => h9) rfl dX6_goStep_45 ?_
            refine lv_iconst (v := (1 : Int32)) hx hb dX6_goStep_48 (by decide) ?_
            refine lv_iadd hx hb dX6_goStep_49 ?_
            refine va_put (ci := 6) (v := .int (mo_passages_a6 + (1 : Int32))) (ty := .int) (C := RX6) (T := TX6) (N := 34) hx hb hts hin_X6 tyX6 tyX6_ok nmX6 hown hK hP hD hS 0 rfl rfl 27 (by decide) fl_172 (fun _ h9 => h9) rfl (by decide +kernel) rfl rfl (Nat.le_of_ble_eq_true rfl) dX6_goStep_50 (fun H locs hP hD hS => ?_)
            have hP : va_P D vwCl (wdM cI cJ ad mo_pageLength mo_page mo_nodes mo_links mo_fromOf mo_toOf mo_width mo_drawn mo_seed mo_bundleOf mo_netsRead mo_sent mo_passagesEver mo_astrayEver mo_loopsEver mo_newNodes mo_newPairs mo_due mo_newOne mo_newFrom mo_newTo mo_marks mo_drawing mo_leftOf mo_wayMany mo_wayAt mo_bitsNow (mo_passages_a6 + (1 : Int32)) mo_astray_a6 mo_loops_a6 mo_steps mo_reached mo_others mo_h) H := hP
            have hD : va_D A (wdM cI cJ ad mo_pageLength mo_page mo_nodes mo_links mo_fromOf mo_toOf mo_width mo_drawn mo_seed mo_bundleOf mo_netsRead mo_sent mo_passagesEver mo_astrayEver mo_loopsEver mo_newNodes mo_newPairs mo_due mo_newOne mo_newFrom mo_newTo mo_marks mo_drawing mo_leftOf mo_wayMany mo_wayAt mo_bitsNow (mo_passages_a6 + (1 : Int32)) mo_astray_a6 mo_loops_a6 mo_steps mo_reached mo_others mo_h) := hD
            refine lv_aload_n hx hb dX6_goStep_53 rfl (lv_at hl 0 rfl) ?_
            refine lv_dup hx hb dX6_goStep_54 rfl ?_
            refine va_get (ci := 6) (v := .int mo_astray_a6) (C := RX6) (T := TX6) (N := 34) hx hb hts hin_X6 hown hK hP 0 rfl rfl 28 (by decide) fl_175 (fun _ h9 => h9) rfl dX6_goStep_55 ?_
            refine lv_iload_n hx hb dX6_goStep_58 rfl (lv_at hl 2 rfl) ?_
            refine lv_iload hx hb dX6_goStep_59 (lv_at hl 5 rfl) ?_
            have F : Fr D A _ [] [] (wdM cI cJ ad mo_pageLength mo_page mo_nodes mo_links mo_fromOf mo_toOf mo_width mo_drawn mo_seed mo_bundleOf mo_netsRead mo_sent mo_passagesEver mo_astrayEver mo_loopsEver mo_newNodes mo_newPairs mo_due mo_newOne mo_newFrom mo_newTo mo_marks mo_drawing mo_leftOf mo_wayMany mo_wayAt mo_bitsNow (mo_passages_a6 + (1 : Int32)) mo_astray_a6 mo_loops_a6 mo_steps mo_reached mo_others mo_h) := fr_nil hP hD hS hA
            refine kZ F hS (rS (As := [.int x2, .int x5_a6]) (rest := [.int mo_astray_a6, .ref (ad 15)]) ⟨hx, hb, hml, hown, hts⟩ hK hN F (c_X6_has l D cI cJ ad _  x2 x5_a6 (o_res := (f_X6_has x2 x5_a6)) rfl) (cwS 2 hts gX6_goStep_X6_has rfl rfl rfl (by decide +kernel) ⟨Nat.le_of_ble_eq_true rfl, Nat.le_of_ble_eq_true rfl⟩) rfl hl.1 rfl (Nat.le_of_ble_eq_true rfl) dX6_goStep_61 ⟨Nat.zero_le _, Nat.zero_le _⟩) (fun H locs hb20 hP hD hS => ?_)
            have kj22 : ∀ (k_21 : Int32), k_21 = (if (f_X6_has x2 x5_a6) = (0 : Int32) then (1 : Int32) else (0 : Int32)) → ∀ (H : Heap) (locs : List Loc) (ls : Array Slot), va_P D vwCl (wdM cI cJ ad mo_pageLength mo_page mo_nodes mo_links mo_fromOf mo_toOf mo_width mo_drawn mo_seed mo_bundleOf mo_netsRead mo_sent mo_passagesEver mo_astrayEver mo_loopsEver mo_newNodes mo_newPairs mo_due mo_newOne mo_newFrom mo_newTo mo_marks mo_drawing mo_leftOf mo_wayMany mo_wayAt mo_bitsNow (mo_passages_a6 + (1 : Int32)) mo_astray_a6 mo_loops_a6 mo_steps mo_reached mo_others mo_h) H → va_D A (wdM cI cJ ad mo_pageLength mo_page mo_nodes mo_links mo_fromOf mo_toOf mo_width mo_drawn mo_seed mo_bundleOf mo_netsRead mo_sent mo_passagesEver mo_astrayEver mo_loopsEver mo_newNodes mo_newPairs mo_due mo_newOne mo_newFrom mo_newTo mo_marks mo_drawing mo_leftOf mo_wayMany mo_wayAt mo_bitsNow (mo_passages_a6 + (1 : Int32)) mo_astray_a6 mo_loops_a6 mo_steps mo_reached mo_others mo_h) → va_S A s.heap H locs → lv_has ls 7 [(0, .ref (ad 15)), (1, .int x1), (2, .int x2), (3, .int x3), (4, .int x4_a6), (5, .int x5_a6)] → W p l e rm_X6_goStep s m args below meth c H locs 0 0 Q (F0 m 72 ls [.int k_21, .int mo_astray_a6, .ref (ad 15)]) := by
              intro k_21 ek_21
              subst ek_21
              intro H locs ls hP hD hS hl
              refine lv_iadd hx hb dX6_goStep_72 ?_
              refine va_put (ci := 6) (v := .int (mo_astray_a6 + (if (f_X6_has x2 x5_a6) = (0 : Int32) then (1 : Int32) else (0 : Int32)))) (ty := .int) (C := RX6) (T := TX6) (N := 34) hx hb hts hin_X6 tyX6 tyX6_ok nmX6 hown hK hP hD hS 0 rfl rfl 28 (by decide) fl_175 (fun _ h9 => h9) rfl (by decide +kernel) rfl rfl (Nat.le_of_ble_eq_true rfl) dX6_goStep_73 (fun H locs hP hD hS => ?_)
              have hP : va_P D vwCl (wdM cI cJ ad mo_pageLength mo_page mo_nodes mo_links mo_fromOf mo_toOf mo_width mo_drawn mo_seed mo_bundleOf mo_netsRead mo_sent mo_passagesEver mo_astrayEver mo_loopsEver mo_newNodes mo_newPairs mo_due mo_newOne mo_newFrom mo_newTo mo_marks mo_drawing mo_leftOf mo_wayMany mo_wayAt mo_bitsNow (mo_passages_a6 + (1 : Int32)) (mo_astray_a6 + (if (f_X6_has x2 x5_a6) = (0 : Int32) then (1 : Int32) else (0 : Int32))) mo_loops_a6 mo_steps mo_reached mo_others mo_h) H := hP
              have hD : va_D A (wdM cI cJ ad mo_pageLength mo_page mo_nodes mo_links mo_fromOf mo_toOf mo_width mo_drawn mo_seed mo_bundleOf mo_netsRead mo_sent mo_passagesEver mo_astrayEver mo_loopsEver mo_newNodes mo_newPairs mo_due mo_newOne mo_newFrom mo_newTo mo_marks mo_drawing mo_leftOf mo_wayMany mo_wayAt mo_bitsNow (mo_passages_a6 + (1 : Int32)) (mo_astray_a6 + (if (f_X6_has x2 x5_a6) = (0 : Int32) then (1 : Int32) else (0 : Int32))) mo_loops_a6 mo_steps mo_reached mo_others mo_h) := hD
              refine lv_aload_n hx hb dX6_goStep_76 rfl (lv_at hl 0 rfl) ?_
              refine va_get (ci := 6) (v := .int mo_reached) (C := RX6) (T := TX6) (N := 34) hx hb hts hin_X6 hown hK hP 0 rfl rfl 31 (by decide) fl_191 (fun _ h9 => h9) rfl dX6_goStep_77 ?_
              refine lv_iload hx hb dX6_goStep_80 (lv_at hl 4 rfl) ?_
              refine lv_ior hx hb dX6_goStep_82 ?_
              refine lv_aload_n hx hb dX6_goStep_83 rfl (lv_at hl 0 rfl) ?_
              refine va_get (ci := 6) (v := .ref (ad 18)) (C := RX6) (T := TX6) (N := 34) hx hb hts hin_X6 hown hK hP 0 rfl rfl 5 (by decide) fl_16 (fun _ h9 => h9) rfl dX6_goStep_84 ?_
              refine lv_iload hx hb dX6_goStep_87 (lv_at hl 5 rfl) ?_
              refine va_iald hx hb hK hP 3 0 rfl rfl g7 dX6_goStep_89 ?_
              have F : Fr D A _ [] [] (wdM cI cJ ad mo_pageLength mo_page mo_nodes mo_links mo_fromOf mo_toOf mo_width mo_drawn mo_seed mo_bundleOf mo_netsRead mo_sent mo_passagesEver mo_astrayEver mo_loopsEver mo_newNodes mo_newPairs mo_due mo_newOne mo_newFrom mo_newTo mo_marks mo_drawing mo_leftOf mo_wayMany mo_wayAt mo_bitsNow (mo_passages_a6 + (1 : Int32)) (mo_astray_a6 + (if (f_X6_has x2 x5_a6) = (0 : Int32) then (1 : Int32) else (0 : Int32))) mo_loops_a6 mo_steps mo_reached mo_others mo_h) := fr_nil hP hD hS hA
              refine kZ F hS (rS (As := [.int (mo_reached ||| x4_a6), .int (mo_toOf (x5_a6).toNatClampNeg)]) (rest := []) ⟨hx, hb, hml, hown, hts⟩ hK hN F (c_X6_has l D cI cJ ad _  (mo_reached ||| x4_a6) (mo_toOf (x5_a6).toNatClampNeg) (o_res := (f_X6_has (mo_reached ||| x4_a6) (mo_toOf (x5_a6).toNatClampNeg))) rfl) (cwS 2 hts gX6_goStep_X6_has rfl rfl rfl (by decide +kernel) ⟨Nat.le_of_ble_eq_true rfl, Nat.le_of_ble_eq_true rfl⟩) rfl hl.1 rfl (Nat.le_of_ble_eq_true rfl) dX6_goStep_90 ⟨Nat.zero_le _, Nat.zero_le _⟩) (fun H locs hb24 hP hD hS => ?_)
              have kj26 : ∀ (k_25 : Int32), k_25 = (if (f_X6_has (mo_reached ||| x4_a6) (mo_toOf (x5_a6).toNatClampNeg)) = (0 : Int32) then (1 : Int32) else (0 : Int32)) → ∀ (H : Heap) (locs : List Loc) (ls : Array Slot), va_P D vwCl (wdM cI cJ ad mo_pageLength mo_page mo_nodes mo_links mo_fromOf mo_toOf mo_width mo_drawn mo_seed mo_bundleOf mo_netsRead mo_sent mo_passagesEver mo_astrayEver mo_loopsEver mo_newNodes mo_newPairs mo_due mo_newOne mo_newFrom mo_newTo mo_marks mo_drawing mo_leftOf mo_wayMany mo_wayAt mo_bitsNow (mo_passages_a6 + (1 : Int32)) (mo_astray_a6 + (if (f_X6_has x2 x5_a6) = (0 : Int32) then (1 : Int32) else (0 : Int32))) mo_loops_a6 mo_steps mo_reached mo_others mo_h) H → va_D A (wdM cI cJ ad mo_pageLength mo_page mo_nodes mo_links mo_fromOf mo_toOf mo_width mo_drawn mo_seed mo_bundleOf mo_netsRead mo_sent mo_passagesEver mo_astrayEver mo_loopsEver mo_newNodes mo_newPairs mo_due mo_newOne mo_newFrom mo_newTo mo_marks mo_drawing mo_leftOf mo_wayMany mo_wayAt mo_bitsNow (mo_passages_a6 + (1 : Int32)) (mo_astray_a6 + (if (f_X6_has x2 x5_a6) = (0 : Int32) then (1 : Int32) else (0 : Int32))) mo_loops_a6 mo_steps mo_reached mo_others mo_h) → va_S A s.heap H locs → lv_has ls 7 [(0, .ref (ad 15)), (1, .int x1), (2, .int x2), (3, .int x3), (4, .int x4_a6), (5, .int x5_a6)] → W p l e rm_X6_goStep s m args below meth c H locs 0 0 Q (F0 m 101 ls [.int k_25]) := by
                intro k_25 ek_25
                subst ek_25
                intro H locs ls hP hD hS hl
                refine lv_istore (lv' := [(6, .int (if (f_X6_has (mo_reached ||| x4_a6) (mo_toOf (x5_a6).toNatClampNeg)) = (0 : Int32) then (1 : Int32) else (0 : Int32))), (0, .ref (ad 15)), (1, .int x1), (2, .int x2), (3, .int x3), (4, .int x4_a6), (5, .int x5_a6)]) hx hb dX6_goStep_101 hl (by decide) rfl (fun ls hl => ?_)
                refine lv_iload hx hb dX6_goStep_103 (lv_at hl 5 rfl) ?_
                refine lv_iload hx hb dX6_goStep_105 (lv_at hl 0 rfl) ?_
                obtain ⟨k_27, hj29, hf⟩ := oo_b hf
                try dsimp only at hf
                have kj28 : ∀ (H : Heap) (locs : List Loc) (ls : Array Slot), va_P D vwCl (wdM cI cJ ad mo_pageLength mo_page mo_nodes mo_links mo_fromOf mo_toOf mo_width mo_drawn mo_seed mo_bundleOf mo_netsRead mo_sent mo_passagesEver mo_astrayEver mo_loopsEver mo_newNodes mo_newPairs mo_due mo_newOne mo_newFrom mo_newTo mo_marks mo_drawing mo_leftOf mo_wayMany mo_wayAt mo_bitsNow (mo_passages_a6 + (1 : Int32)) (mo_astray_a6 + (if (f_X6_has x2 x5_a6) = (0 : Int32) then (1 : Int32) else (0 : Int32))) mo_loops_a6 mo_steps mo_reached mo_others mo_h) H → va_D A (wdM cI cJ ad mo_pageLength mo_page mo_nodes mo_links mo_fromOf mo_toOf mo_width mo_drawn mo_seed mo_bundleOf mo_netsRead mo_sent mo_passagesEver mo_astrayEver mo_loopsEver mo_newNodes mo_newPairs mo_due mo_newOne mo_newFrom mo_newTo mo_marks mo_drawing mo_leftOf mo_wayMany mo_wayAt mo_bitsNow (mo_passages_a6 + (1 : Int32)) (mo_astray_a6 + (if (f_X6_has x2 x5_a6) = (0 : Int32) then (1 : Int32) else (0 : Int32))) mo_loops_a6 mo_steps mo_reached mo_others mo_h) → va_S A s.heap H locs → lv_has ls 7 [(0, .ref (ad 15)), (1, .int x1), (2, .int x2), (3, .int x3), (5, .int x5_a6), (6, .int (if (f_X6_has (mo_reached ||| x4_a6) (mo_toOf (x5_a6).toNatClampNeg)) = (0 : Int32) then (1 : Int32) else (0 : Int32)))] → W p l e rm_X6_goStep s m args below meth c H locs 0 0 Q (F0 m 123 ls [.int k_27, .int x4_a6]) := by
                  intro H locs ls hP hD hS hl
                  refine lv_ior hx hb dX6_goStep_123 ?_
                  refine lv_istore (lv' := [(4, .int (x4_a6 ||| k_27)), (0, .ref (ad 15)), (1, .int x1), (2, .int x2), (3, .int x3), (5, .int x5_a6), (6, .int (if (f_X6_has (mo_reached ||| x4_a6) (mo_toOf (x5_a6).toNatClampNeg)) = (0 : Int32) then (1 : Int32) else (0 : Int32)))]) hx hb dX6_goStep_124 hl (by decide) rfl (fun ls hl => ?_)
                  refine lv_aload_n hx hb dX6_goStep_126 rfl (lv_at hl 1 rfl) ?_
                  refine lv_dup hx hb dX6_goStep_127 rfl ?_
                  refine va_get (ci := 6) (v := .int mo_loops_a6) (C := RX6) (T := TX6) (N := 34) hx hb hts hin_X6 hown hK hP 0 rfl rfl 29 (by decide) fl_178 (fun _ h9 => h9) rfl dX6_goStep_128 ?_
                  refine lv_iload hx hb dX6_goStep_131 (lv_at hl 6 rfl) ?_
                  obtain ⟨k_30, hj32, hf⟩ := oo_b hf
                  try dsimp only at hf
                  have kj31 : ∀ (H : Heap) (locs : List Loc) (ls : Array Slot), va_P D vwCl (wdM cI cJ ad mo_pageLength mo_page mo_nodes mo_links mo_fromOf mo_toOf mo_width mo_drawn mo_seed mo_bundleOf mo_netsRead mo_sent mo_passagesEver mo_astrayEver mo_loopsEver mo_newNodes mo_newPairs mo_due mo_newOne mo_newFrom mo_newTo mo_marks mo_drawing mo_leftOf mo_wayMany mo_wayAt mo_bitsNow (mo_passages_a6 + (1 : Int32)) (mo_astray_a6 + (if (f_X6_has x2 x5_a6) = (0 : Int32) then (1 : Int32) else (0 : Int32))) mo_loops_a6 mo_steps mo_reached mo_others mo_h) H → va_D A (wdM cI cJ ad mo_pageLength mo_page mo_nodes mo_links mo_fromOf mo_toOf mo_width mo_drawn mo_seed mo_bundleOf mo_netsRead mo_sent mo_passagesEver mo_astrayEver mo_loopsEver mo_newNodes mo_newPairs mo_due mo_newOne mo_newFrom mo_newTo mo_marks mo_drawing mo_leftOf mo_wayMany mo_wayAt mo_bitsNow (mo_passages_a6 + (1 : Int32)) (mo_astray_a6 + (if (f_X6_has x2 x5_a6) = (0 : Int32) then (1 : Int32) else (0 : Int32))) mo_loops_a6 mo_steps mo_reached mo_others mo_h) → va_S A s.heap H locs → lv_has ls 7 [(0, .ref (ad 15)), (1, .int x1), (2, .int x2), (3, .int x3), (4, .int (x4_a6 ||| k_27)), (5, .int x5_a6)] → W p l e rm_X6_goStep s m args below meth c H locs 0 0 Q (F0 m 141 ls [.int k_30, .int mo_loops_a6, .ref (ad 15)]) := by
                    intro H locs ls hP hD hS hl
                    refine lv_iadd hx hb dX6_goStep_141 ?_
                    refine va_put (ci := 6) (v := .int (mo_loops_a6 + k_30)) (ty := .int) (C := RX6) (T := TX6) (N := 34) hx hb hts hin_X6 tyX6 tyX6_ok nmX6 hown hK hP hD hS 0 rfl rfl 29 (by decide) fl_178 (fun _ h9 => h9) rfl (by decide +kernel) rfl rfl (Nat.le_of_ble_eq_true rfl) dX6_goStep_142 (fun H locs hP hD hS => ?_)
                    have hP : va_P D vwCl (wdM cI cJ ad mo_pageLength mo_page mo_nodes mo_links mo_fromOf mo_toOf mo_width mo_drawn mo_seed mo_bundleOf mo_netsRead mo_sent mo_passagesEver mo_astrayEver mo_loopsEver mo_newNodes mo_newPairs mo_due mo_newOne mo_newFrom mo_newTo mo_marks mo_drawing mo_leftOf mo_wayMany mo_wayAt mo_bitsNow (mo_passages_a6 + (1 : Int32)) (mo_astray_a6 + (if (f_X6_has x2 x5_a6) = (0 : Int32) then (1 : Int32) else (0 : Int32))) (mo_loops_a6 + k_30) mo_steps mo_reached mo_others mo_h) H := hP
                    have hD : va_D A (wdM cI cJ ad mo_pageLength mo_page mo_nodes mo_links mo_fromOf mo_toOf mo_width mo_drawn mo_seed mo_bundleOf mo_netsRead mo_sent mo_passagesEver mo_astrayEver mo_loopsEver mo_newNodes mo_newPairs mo_due mo_newOne mo_newFrom mo_newTo mo_marks mo_drawing mo_leftOf mo_wayMany mo_wayAt mo_bitsNow (mo_passages_a6 + (1 : Int32)) (mo_astray_a6 + (if (f_X6_has x2 x5_a6) = (0 : Int32) then (1 : Int32) else (0 : Int32))) (mo_loops_a6 + k_30) mo_steps mo_reached mo_others mo_h) := hD
                    cases hf
                    exact kj13 _ _ _ hP hD hS (lv_sub hl [0, 1, 2, 3, 4, 5] rfl)
                  clear hf
                  have hf := hj32
                  clear hj32
                  refine lv_if_eq (tgt := 140) hx hb dX6_goStep_133 (by decide) (fun c33 => ?_) (fun c33 => ?_)
                  · have hf := oo_t hf c33
                    refine lv_iconst (v := (1 : Int32)) hx hb dX6_goStep_140 (by decide) ?_
                    cases hf
                    exact kj31 _ _ _ hP hD hS (lv_sub hl [1, 2, 3, 4, 0, 5] rfl)
                  · have hf := oo_f hf c33
                    refine lv_iconst (v := (0 : Int32)) hx hb dX6_goStep_136 (by decide) ?_
                    refine lv_goto (tgt := 141) hx hb dX6_goStep_137 (by decide) ?_
                    cases hf
                    exact kj31 _ _ _ hP hD hS (lv_sub hl [1, 2, 3, 4, 0, 5] rfl)
                clear hf
                have hf := hj29
                clear hj29
                refine lv_if_eq (tgt := 122) hx hb dX6_goStep_107 (by decide) (fun c34 => ?_) (fun c34 => ?_)
                · have hf := oo_t hf c34
                  refine lv_iconst (v := (0 : Int32)) hx hb dX6_goStep_122 (by decide) ?_
                  cases hf
                  exact kj28 _ _ _ hP hD hS (lv_sub hl [1, 2, 3, 4, 6, 0] rfl)
                · have hf := oo_f hf c34
                  refine lv_iconst (v := (1 : Int32)) hx hb dX6_goStep_110 (by decide) ?_
                  refine lv_aload_n hx hb dX6_goStep_111 rfl (lv_at hl 1 rfl) ?_
                  refine va_get (ci := 6) (v := .ref (ad 18)) (C := RX6) (T := TX6) (N := 34) hx hb hts hin_X6 hown hK hP 0 rfl rfl 5 (by decide) fl_16 (fun _ h9 => h9) rfl dX6_goStep_112 ?_
                  refine lv_iload hx hb dX6_goStep_115 (lv_at hl 6 rfl) ?_
                  refine va_iald hx hb hK hP 3 0 rfl rfl g7 dX6_goStep_117 ?_
                  refine lv_ishl hx hb dX6_goStep_118 ?_
                  refine lv_goto (tgt := 123) hx hb dX6_goStep_119 (by decide) ?_
                  cases hf
                  exact kj28 _ _ _ hP hD hS (lv_sub hl [1, 2, 3, 4, 6, 0] rfl)
              refine lv_if_ne (tgt := 100) hx hb dX6_goStep_93 (by decide) (fun c36 => ?_) (fun c36 => ?_)
              · refine lv_iconst (v := (0 : Int32)) hx hb dX6_goStep_100 (by decide) ?_
                exact kj26 (0 : Int32) (if_neg c36).symm _ _ _ hP hD hS (lv_sub hl [0, 1, 2, 3, 4, 5] rfl)
              · refine lv_iconst (v := (1 : Int32)) hx hb dX6_goStep_96 (by decide) ?_
                refine lv_goto (tgt := 101) hx hb dX6_goStep_97 (by decide) ?_
                exact kj26 (1 : Int32) (if_pos c36).symm _ _ _ hP hD hS (lv_sub hl [0, 1, 2, 3, 4, 5] rfl)
            refine lv_if_eq (tgt := 71) hx hb dX6_goStep_64 (by decide) (fun c37 => ?_) (fun c37 => ?_)
            · refine lv_iconst (v := (1 : Int32)) hx hb dX6_goStep_71 (by decide) ?_
              exact kj22 (1 : Int32) (if_pos c37).symm _ _ _ hP hD hS (lv_sub hl [0, 1, 2, 3, 4, 5] rfl)
            · refine lv_iconst (v := (0 : Int32)) hx hb dX6_goStep_67 (by decide) ?_
              refine lv_goto (tgt := 72) hx hb dX6_goStep_68 (by decide) ?_
              exact kj22 (0 : Int32) (if_neg c37).symm _ _ _ hP hD hS (lv_sub hl [0, 1, 2, 3, 4, 5] rfl)
  obtain ⟨⟨mo_passages_o1, mo_astray_o2, mo_loops_o3, x4_o4⟩, h38, hf⟩ := oo_b hf
  try dsimp only at hf
  refine lp5  100 mo_passages mo_astray mo_loops (0 : Int32) (0 : Int32) mo_passages_o1 mo_astray_o2 mo_loops_o3 x4_o4 h38 (fun H locs ls hP hD hS hl => ?_) _ _ _ hP hD hS (lv_sub hl [2, 3, 4, 5, 1, 0] rfl)
  refine lv_aload_n hx hb dX6_goStep_151 rfl (lv_at hl 0 rfl) ?_
  refine lv_dup hx hb dX6_goStep_152 rfl ?_
  refine va_get (ci := 6) (v := .int mo_reached) (C := RX6) (T := TX6) (N := 34) hx hb hts hin_X6 hown hK hP 0 rfl rfl 31 (by decide) fl_191 (fun _ h9 => h9) rfl dX6_goStep_153 ?_
  refine lv_iload hx hb dX6_goStep_156 (lv_at hl 1 rfl) ?_
  refine lv_ior hx hb dX6_goStep_158 ?_
  refine va_put (ci := 6) (v := .int (mo_reached ||| x4_o4)) (ty := .int) (C := RX6) (T := TX6) (N := 34) hx hb hts hin_X6 tyX6 tyX6_ok nmX6 hown hK hP hD hS 0 rfl rfl 31 (by decide) fl_191 (fun _ h9 => h9) rfl (by decide +kernel) rfl rfl (Nat.le_of_ble_eq_true rfl) dX6_goStep_159 (fun H locs hP hD hS => ?_)
  have hP : va_P D vwCl (wdM cI cJ ad mo_pageLength mo_page mo_nodes mo_links mo_fromOf mo_toOf mo_width mo_drawn mo_seed mo_bundleOf mo_netsRead mo_sent mo_passagesEver mo_astrayEver mo_loopsEver mo_newNodes mo_newPairs mo_due mo_newOne mo_newFrom mo_newTo mo_marks mo_drawing mo_leftOf mo_wayMany mo_wayAt mo_bitsNow mo_passages_o1 mo_astray_o2 mo_loops_o3 mo_steps (mo_reached ||| x4_o4) mo_others mo_h) H := hP
  have hD : va_D A (wdM cI cJ ad mo_pageLength mo_page mo_nodes mo_links mo_fromOf mo_toOf mo_width mo_drawn mo_seed mo_bundleOf mo_netsRead mo_sent mo_passagesEver mo_astrayEver mo_loopsEver mo_newNodes mo_newPairs mo_due mo_newOne mo_newFrom mo_newTo mo_marks mo_drawing mo_leftOf mo_wayMany mo_wayAt mo_bitsNow mo_passages_o1 mo_astray_o2 mo_loops_o3 mo_steps (mo_reached ||| x4_o4) mo_others mo_h) := hD
  refine lv_iload hx hb dX6_goStep_162 (lv_at hl 1 rfl) ?_
  cases hf
  exact hret _ _ _ _ dX6_goStep_164 hP hD hS
def f_X6_laySpread_L40 (mo_links : Int32) (mo_bundleOf : Nat → Int32) (mo_marks : Nat → Int64) (r2 : Int64) (x2 : Int32) (x3 : Int32) : Nat → Int32 → Int32 → Option (Int32)
  | 0, _, _ => none
  | n + 1, mo_others_a40, x5_a40 =>
      if mo_links ≤ x5_a40 then
        some mo_others_a40
      else
        Option.bind (α := Int32) (if (f_X6_has x2 x5_a40) = (0 : Int32) then
            Option.bind (f_X6_matches mo_bundleOf mo_marks x5_a40 r2 x3) fun r13 =>
            if r13 = (0 : Int32) then
              some (0 : Int32)
            else
              some (1 : Int32)
          else
            some (0 : Int32)) fun k_8 =>
        f_X6_laySpread_L40 mo_links mo_bundleOf mo_marks r2 x2 x3 n (mo_others_a40 + k_8) (x5_a40 + (1 : Int32))
theorem f_X6_laySpread_L40_s (mo_links : Int32) (mo_bundleOf : Nat → Int32) (mo_marks : Nat → Int64) (r2 : Int64) (x2 : Int32) (x3 : Int32) (n : Nat) (mo_others_a40 : Int32) (x5_a40 : Int32) : f_X6_laySpread_L40 mo_links mo_bundleOf mo_marks r2 x2 x3 (n + 1) mo_others_a40 x5_a40 =
      (if mo_links ≤ x5_a40 then
        some mo_others_a40
      else
        Option.bind (α := Int32) (if (f_X6_has x2 x5_a40) = (0 : Int32) then
            Option.bind (f_X6_matches mo_bundleOf mo_marks x5_a40 r2 x3) fun r13 =>
            if r13 = (0 : Int32) then
              some (0 : Int32)
            else
              some (1 : Int32)
          else
            some (0 : Int32)) fun k_8 =>
        f_X6_laySpread_L40 mo_links mo_bundleOf mo_marks r2 x2 x3 n (mo_others_a40 + k_8) (x5_a40 + (1 : Int32))) := rfl
def f_X6_laySpread_L105 (mo_links : Int32) (mo_fromOf : Nat → Int32) (mo_toOf : Nat → Int32) (mo_bundleOf : Nat → Int32) (mo_marks : Nat → Int64) (r2 : Int64) (x2 : Int32) (x3 : Int32) : Nat → Int32 → Int32 → Int32 → Int32 → Int32 → Int32 → Option (Int32 × Int32 × Int32 × Int32 × Int32)
  | 0, _, _, _, _, _, _ => none
  | n + 1, mo_passages_a105, mo_astray_a105, mo_loops_a105, mo_steps_a105, mo_reached_a105, x5_a105 =>
      if x5_a105 = (0 : Int32) then
        some (mo_passages_a105, mo_astray_a105, mo_loops_a105, mo_steps_a105, mo_reached_a105)
      else
        Option.bind (f_X6_goStep mo_links mo_fromOf mo_toOf mo_bundleOf mo_marks r2 mo_passages_a105 mo_astray_a105 mo_loops_a105 mo_reached_a105 x5_a105 x2 x3) fun (r25, mo_passages_26, mo_astray_27, mo_loops_28, mo_reached_29) =>
        f_X6_laySpread_L105 mo_links mo_fromOf mo_toOf mo_bundleOf mo_marks r2 x2 x3 n mo_passages_26 mo_astray_27 mo_loops_28 (mo_steps_a105 + (1 : Int32)) mo_reached_29 r25
theorem f_X6_laySpread_L105_s (mo_links : Int32) (mo_fromOf : Nat → Int32) (mo_toOf : Nat → Int32) (mo_bundleOf : Nat → Int32) (mo_marks : Nat → Int64) (r2 : Int64) (x2 : Int32) (x3 : Int32) (n : Nat) (mo_passages_a105 : Int32) (mo_astray_a105 : Int32) (mo_loops_a105 : Int32) (mo_steps_a105 : Int32) (mo_reached_a105 : Int32) (x5_a105 : Int32) : f_X6_laySpread_L105 mo_links mo_fromOf mo_toOf mo_bundleOf mo_marks r2 x2 x3 (n + 1) mo_passages_a105 mo_astray_a105 mo_loops_a105 mo_steps_a105 mo_reached_a105 x5_a105 =
      (if x5_a105 = (0 : Int32) then
        some (mo_passages_a105, mo_astray_a105, mo_loops_a105, mo_steps_a105, mo_reached_a105)
      else
        Option.bind (f_X6_goStep mo_links mo_fromOf mo_toOf mo_bundleOf mo_marks r2 mo_passages_a105 mo_astray_a105 mo_loops_a105 mo_reached_a105 x5_a105 x2 x3) fun (r25, mo_passages_26, mo_astray_27, mo_loops_28, mo_reached_29) =>
        f_X6_laySpread_L105 mo_links mo_fromOf mo_toOf mo_bundleOf mo_marks r2 x2 x3 n mo_passages_26 mo_astray_27 mo_loops_28 (mo_steps_a105 + (1 : Int32)) mo_reached_29 r25) := rfl
def f_X6_laySpread (mo_links : Int32) (mo_fromOf : Nat → Int32) (mo_toOf : Nat → Int32) (mo_bundleOf : Nat → Int32) (mo_marks : Nat → Int64) (x1 : Int32) (x2 : Int32) (x3 : Int32) (x4 : Int32) : Option (Int64 × Int32 × Int32 × Int32 × Int32 × Int32 × Int32) :=
  Option.bind (f_X6_foldOf mo_links mo_bundleOf mo_marks x2 x3 x4) fun r2 =>
  Option.bind (f_X6_laySpread_L40 mo_links mo_bundleOf mo_marks r2 x2 x3 100 (0 : Int32) (0 : Int32)) fun mo_others_o4 =>
  Option.bind (f_X6_laySpread_L105 mo_links mo_fromOf mo_toOf mo_bundleOf mo_marks r2 x2 x3 100 (0 : Int32) (0 : Int32) (0 : Int32) (0 : Int32) ((1 : Int32) <<< (x1 &&& 31)) ((1 : Int32) <<< (x1 &&& 31))) fun (mo_passages_o17, mo_astray_o18, mo_loops_o19, mo_steps_o20, mo_reached_o21) =>
  some (r2, mo_passages_o17, mo_astray_o18, mo_loops_o19, mo_steps_o20, mo_reached_o21, mo_others_o4)
abbrev rm_X6_laySpread : Room := { frames := 3, cells := 0, slots := 0, locals := 73 }
set_option maxHeartbeats 4000000 in
set_option maxRecDepth 100000 in
theorem c_X6_laySpread (l : Launch) (D : va_G) (cI cJ : ClassId) (ad : Nat → Nat) (sz : Nat) {mo_pageLength : Int32} {mo_page : Nat → Int32} {mo_nodes mo_links : Int32} {mo_fromOf mo_toOf : Nat → Int32} {mo_width mo_drawn mo_seed : Int32} {mo_bundleOf : Nat → Int32} {mo_netsRead mo_sent mo_passagesEver mo_astrayEver mo_loopsEver mo_newNodes mo_newPairs mo_due mo_newOne : Int32} {mo_newFrom mo_newTo : Nat → Int32} {mo_marks : Nat → Int64} {mo_drawing : Int64} {mo_leftOf : Nat → Int32} {mo_wayMany : Int32} {mo_wayAt : Nat → Int32} {mo_bitsNow : Int64} {mo_passages mo_astray mo_loops mo_steps mo_reached mo_others : Int32} {mo_h : Int64} (x1 : Int32) (x2 : Int32) (x3 : Int32) (x4 : Int32) {o_mo_bitsNow : Int64} {o_mo_passages : Int32} {o_mo_astray : Int32} {o_mo_loops : Int32} {o_mo_steps : Int32} {o_mo_reached : Int32} {o_mo_others : Int32} (hf : f_X6_laySpread mo_links mo_fromOf mo_toOf mo_bundleOf mo_marks x1 x2 x3 x4 = some (o_mo_bitsNow, o_mo_passages, o_mo_astray, o_mo_loops, o_mo_steps, o_mo_reached, o_mo_others)) : CtV l yX6_laySpread wsX6_laySpread rm_X6_laySpread D cI cJ [.ref (ad 15), .int x1, .int x2, .int x3, .int x4] (wdM cI cJ ad mo_pageLength mo_page mo_nodes mo_links mo_fromOf mo_toOf mo_width mo_drawn mo_seed mo_bundleOf mo_netsRead mo_sent mo_passagesEver mo_astrayEver mo_loopsEver mo_newNodes mo_newPairs mo_due mo_newOne mo_newFrom mo_newTo mo_marks mo_drawing mo_leftOf mo_wayMany mo_wayAt mo_bitsNow mo_passages mo_astray mo_loops mo_steps mo_reached mo_others mo_h) sz (wdM cI cJ ad mo_pageLength mo_page mo_nodes mo_links mo_fromOf mo_toOf mo_width mo_drawn mo_seed mo_bundleOf mo_netsRead mo_sent mo_passagesEver mo_astrayEver mo_loopsEver mo_newNodes mo_newPairs mo_due mo_newOne mo_newFrom mo_newTo mo_marks mo_drawing mo_leftOf mo_wayMany mo_wayAt o_mo_bitsNow o_mo_passages o_mo_astray o_mo_loops o_mo_steps o_mo_reached o_mo_others mo_h) := by
  refine ctV_of (cc := cX6_laySpread) (maxL := 6) (by decide) rfl (Nat.le_of_ble_eq_true rfl) ?_
  intro p e s m below meth c Q A hx hb hml hown hts hK hN hA hret ls hl hP hD hS
  obtain ⟨args, hargs⟩ : ∃ a : Array Value, a = [.ref (ad 15), .int x1, .int x2, .int x3, .int x4].toArray := ⟨_, rfl⟩
  rw [← hargs] at hts hret ⊢
  have hown : s.vm.findClass RX6 = some m.cls := hown
  have hl : lv_has ls 6 [(0, .ref (ad 15)), (1, .int x1), (2, .int x2), (3, .int x3), (4, .int x4)] := hl
  have hin_X6 : ∀ w ∈ wsX60, w ∈ wsX6_laySpread := fun _ h => List.mem_cons_of_mem _ (List.mem_append_right _ h)
  have fl_85 : (Cond.fieldLink RX6 85 "FoldedWaysModel" "links" "I").before args s = true := hat hts 7 rfl
  have fl_169 : (Cond.fieldLink RX6 169 "FoldedWaysModel" "bitsNow" "J").before args s = true := hat hts 1 rfl
  have fl_172 : (Cond.fieldLink RX6 172 "FoldedWaysModel" "passages" "I").before args s = true := hat hts 2 rfl
  have fl_175 : (Cond.fieldLink RX6 175 "FoldedWaysModel" "astray" "I").before args s = true := hat hts 3 rfl
  have fl_178 : (Cond.fieldLink RX6 178 "FoldedWaysModel" "loops" "I").before args s = true := hat hts 4 rfl
  have fl_181 : (Cond.fieldLink RX6 181 "FoldedWaysModel" "steps" "I").before args s = true := hat hts 5 rfl
  have fl_184 : (Cond.fieldLink RX6 184 "FoldedWaysModel" "others" "I").before args s = true := hat hts 6 rfl
  have fl_191 : (Cond.fieldLink RX6 191 "FoldedWaysModel" "reached" "I").before args s = true := hat hts 8 rfl
  unfold f_X6_laySpread at hf
  refine lv_aload_n hx hb dX6_laySpread_0 rfl (lv_at hl 0 rfl) ?_
  refine lv_aload_n hx hb dX6_laySpread_1 rfl (lv_at hl 0 rfl) ?_
  refine lv_iload_n hx hb dX6_laySpread_2 rfl (lv_at hl 2 rfl) ?_
  refine lv_iload_n hx hb dX6_laySpread_3 rfl (lv_at hl 3 rfl) ?_
  refine lv_iload hx hb dX6_laySpread_4 (lv_at hl 4 rfl) ?_
  obtain ⟨r2, h1, hf⟩ := oo_b hf
  try dsimp only at hf
  have F : Fr D A _ (wdM cI cJ ad mo_pageLength mo_page mo_nodes mo_links mo_fromOf mo_toOf mo_width mo_drawn mo_seed mo_bundleOf mo_netsRead mo_sent mo_passagesEver mo_astrayEver mo_loopsEver mo_newNodes mo_newPairs mo_due mo_newOne mo_newFrom mo_newTo mo_marks mo_drawing mo_leftOf mo_wayMany mo_wayAt mo_bitsNow mo_passages mo_astray mo_loops mo_steps mo_reached mo_others mo_h) (wdM cI cJ ad mo_pageLength mo_page mo_nodes mo_links mo_fromOf mo_toOf mo_width mo_drawn mo_seed mo_bundleOf mo_netsRead mo_sent mo_passagesEver mo_astrayEver mo_loopsEver mo_newNodes mo_newPairs mo_due mo_newOne mo_newFrom mo_newTo mo_marks mo_drawing mo_leftOf mo_wayMany mo_wayAt mo_bitsNow mo_passages mo_astray mo_loops mo_steps mo_reached mo_others mo_h) (wdM cI cJ ad mo_pageLength mo_page mo_nodes mo_links mo_fromOf mo_toOf mo_width mo_drawn mo_seed mo_bundleOf mo_netsRead mo_sent mo_passagesEver mo_astrayEver mo_loopsEver mo_newNodes mo_newPairs mo_due mo_newOne mo_newFrom mo_newTo mo_marks mo_drawing mo_leftOf mo_wayMany mo_wayAt mo_bitsNow mo_passages mo_astray mo_loops mo_steps mo_reached mo_others mo_h) := fr_self hP hD hS hA
  refine kL F hS (rV (q := (RX6, TX6, 34)) (As := [.int x2, .int x3, .int x4]) (rest := [.ref (ad 15)]) ⟨hx, hb, hml, hown, hts⟩ hK hN F (c_X6_foldOf l D cI cJ ad _ (mo_pageLength := mo_pageLength) (mo_page := mo_page) (mo_nodes := mo_nodes) (mo_links := mo_links) (mo_fromOf := mo_fromOf) (mo_toOf := mo_toOf) (mo_width := mo_width) (mo_drawn := mo_drawn) (mo_seed := mo_seed) (mo_bundleOf := mo_bundleOf) (mo_netsRead := mo_netsRead) (mo_sent := mo_sent) (mo_passagesEver := mo_passagesEver) (mo_astrayEver := mo_astrayEver) (mo_loopsEver := mo_loopsEver) (mo_newNodes := mo_newNodes) (mo_newPairs := mo_newPairs) (mo_due := mo_due) (mo_newOne := mo_newOne) (mo_newFrom := mo_newFrom) (mo_newTo := mo_newTo) (mo_marks := mo_marks) (mo_drawing := mo_drawing) (mo_leftOf := mo_leftOf) (mo_wayMany := mo_wayMany) (mo_wayAt := mo_wayAt) (mo_bitsNow := mo_bitsNow) (mo_passages := mo_passages) (mo_astray := mo_astray) (mo_loops := mo_loops) (mo_steps := mo_steps) (mo_reached := mo_reached) (mo_others := mo_others) (mo_h := mo_h) x2 x3 x4 (o_res := r2) h1) (cwV 3 hts gX6_laySpread_X6_foldOf rfl rfl rfl (by decide +kernel) ⟨Nat.le_of_ble_eq_true rfl, Nat.le_of_ble_eq_true rfl⟩) (ci := 6) rfl rfl rfl hl.1 rfl (Nat.le_of_ble_eq_true rfl) dX6_laySpread_6 ⟨Nat.zero_le _, Nat.zero_le _⟩) (fun H locs hP hD hS => ?_)
  refine va_put (ci := 6) (v := .long r2) (ty := .long) (C := RX6) (T := TX6) (N := 34) hx hb hts hin_X6 tyX6 tyX6_ok nmX6 hown hK hP hD hS 0 rfl rfl 26 (by decide) fl_169 (fun _ h9 => h9) rfl (by decide +kernel) rfl rfl (Nat.le_of_ble_eq_true rfl) dX6_laySpread_9 (fun H locs hP hD hS => ?_)
  have hP : va_P D vwCl (wdM cI cJ ad mo_pageLength mo_page mo_nodes mo_links mo_fromOf mo_toOf mo_width mo_drawn mo_seed mo_bundleOf mo_netsRead mo_sent mo_passagesEver mo_astrayEver mo_loopsEver mo_newNodes mo_newPairs mo_due mo_newOne mo_newFrom mo_newTo mo_marks mo_drawing mo_leftOf mo_wayMany mo_wayAt r2 mo_passages mo_astray mo_loops mo_steps mo_reached mo_others mo_h) H := hP
  have hD : va_D A (wdM cI cJ ad mo_pageLength mo_page mo_nodes mo_links mo_fromOf mo_toOf mo_width mo_drawn mo_seed mo_bundleOf mo_netsRead mo_sent mo_passagesEver mo_astrayEver mo_loopsEver mo_newNodes mo_newPairs mo_due mo_newOne mo_newFrom mo_newTo mo_marks mo_drawing mo_leftOf mo_wayMany mo_wayAt r2 mo_passages mo_astray mo_loops mo_steps mo_reached mo_others mo_h) := hD
  refine lv_aload_n hx hb dX6_laySpread_12 rfl (lv_at hl 0 rfl) ?_
  refine lv_iconst (v := (0 : Int32)) hx hb dX6_laySpread_13 (by decide) ?_
  refine va_put (ci := 6) (v := .int (0 : Int32)) (ty := .int) (C := RX6) (T := TX6) (N := 34) hx hb hts hin_X6 tyX6 tyX6_ok nmX6 hown hK hP hD hS 0 rfl rfl 27 (by decide) fl_172 (fun _ h9 => h9) rfl (by decide +kernel) rfl rfl (Nat.le_of_ble_eq_true rfl) dX6_laySpread_14 (fun H locs hP hD hS => ?_)
  have hP : va_P D vwCl (wdM cI cJ ad mo_pageLength mo_page mo_nodes mo_links mo_fromOf mo_toOf mo_width mo_drawn mo_seed mo_bundleOf mo_netsRead mo_sent mo_passagesEver mo_astrayEver mo_loopsEver mo_newNodes mo_newPairs mo_due mo_newOne mo_newFrom mo_newTo mo_marks mo_drawing mo_leftOf mo_wayMany mo_wayAt r2 (0 : Int32) mo_astray mo_loops mo_steps mo_reached mo_others mo_h) H := hP
  have hD : va_D A (wdM cI cJ ad mo_pageLength mo_page mo_nodes mo_links mo_fromOf mo_toOf mo_width mo_drawn mo_seed mo_bundleOf mo_netsRead mo_sent mo_passagesEver mo_astrayEver mo_loopsEver mo_newNodes mo_newPairs mo_due mo_newOne mo_newFrom mo_newTo mo_marks mo_drawing mo_leftOf mo_wayMany mo_wayAt r2 (0 : Int32) mo_astray mo_loops mo_steps mo_reached mo_others mo_h) := hD
  refine lv_aload_n hx hb dX6_laySpread_17 rfl (lv_at hl 0 rfl) ?_
  refine lv_iconst (v := (0 : Int32)) hx hb dX6_laySpread_18 (by decide) ?_
  refine va_put (ci := 6) (v := .int (0 : Int32)) (ty := .int) (C := RX6) (T := TX6) (N := 34) hx hb hts hin_X6 tyX6 tyX6_ok nmX6 hown hK hP hD hS 0 rfl rfl 28 (by decide) fl_175 (fun _ h9 => h9) rfl (by decide +kernel) rfl rfl (Nat.le_of_ble_eq_true rfl) dX6_laySpread_19 (fun H locs hP hD hS => ?_)
  have hP : va_P D vwCl (wdM cI cJ ad mo_pageLength mo_page mo_nodes mo_links mo_fromOf mo_toOf mo_width mo_drawn mo_seed mo_bundleOf mo_netsRead mo_sent mo_passagesEver mo_astrayEver mo_loopsEver mo_newNodes mo_newPairs mo_due mo_newOne mo_newFrom mo_newTo mo_marks mo_drawing mo_leftOf mo_wayMany mo_wayAt r2 (0 : Int32) (0 : Int32) mo_loops mo_steps mo_reached mo_others mo_h) H := hP
  have hD : va_D A (wdM cI cJ ad mo_pageLength mo_page mo_nodes mo_links mo_fromOf mo_toOf mo_width mo_drawn mo_seed mo_bundleOf mo_netsRead mo_sent mo_passagesEver mo_astrayEver mo_loopsEver mo_newNodes mo_newPairs mo_due mo_newOne mo_newFrom mo_newTo mo_marks mo_drawing mo_leftOf mo_wayMany mo_wayAt r2 (0 : Int32) (0 : Int32) mo_loops mo_steps mo_reached mo_others mo_h) := hD
  refine lv_aload_n hx hb dX6_laySpread_22 rfl (lv_at hl 0 rfl) ?_
  refine lv_iconst (v := (0 : Int32)) hx hb dX6_laySpread_23 (by decide) ?_
  refine va_put (ci := 6) (v := .int (0 : Int32)) (ty := .int) (C := RX6) (T := TX6) (N := 34) hx hb hts hin_X6 tyX6 tyX6_ok nmX6 hown hK hP hD hS 0 rfl rfl 29 (by decide) fl_178 (fun _ h9 => h9) rfl (by decide +kernel) rfl rfl (Nat.le_of_ble_eq_true rfl) dX6_laySpread_24 (fun H locs hP hD hS => ?_)
  have hP : va_P D vwCl (wdM cI cJ ad mo_pageLength mo_page mo_nodes mo_links mo_fromOf mo_toOf mo_width mo_drawn mo_seed mo_bundleOf mo_netsRead mo_sent mo_passagesEver mo_astrayEver mo_loopsEver mo_newNodes mo_newPairs mo_due mo_newOne mo_newFrom mo_newTo mo_marks mo_drawing mo_leftOf mo_wayMany mo_wayAt r2 (0 : Int32) (0 : Int32) (0 : Int32) mo_steps mo_reached mo_others mo_h) H := hP
  have hD : va_D A (wdM cI cJ ad mo_pageLength mo_page mo_nodes mo_links mo_fromOf mo_toOf mo_width mo_drawn mo_seed mo_bundleOf mo_netsRead mo_sent mo_passagesEver mo_astrayEver mo_loopsEver mo_newNodes mo_newPairs mo_due mo_newOne mo_newFrom mo_newTo mo_marks mo_drawing mo_leftOf mo_wayMany mo_wayAt r2 (0 : Int32) (0 : Int32) (0 : Int32) mo_steps mo_reached mo_others mo_h) := hD
  refine lv_aload_n hx hb dX6_laySpread_27 rfl (lv_at hl 0 rfl) ?_
  refine lv_iconst (v := (0 : Int32)) hx hb dX6_laySpread_28 (by decide) ?_
  refine va_put (ci := 6) (v := .int (0 : Int32)) (ty := .int) (C := RX6) (T := TX6) (N := 34) hx hb hts hin_X6 tyX6 tyX6_ok nmX6 hown hK hP hD hS 0 rfl rfl 30 (by decide) fl_181 (fun _ h9 => h9) rfl (by decide +kernel) rfl rfl (Nat.le_of_ble_eq_true rfl) dX6_laySpread_29 (fun H locs hP hD hS => ?_)
  have hP : va_P D vwCl (wdM cI cJ ad mo_pageLength mo_page mo_nodes mo_links mo_fromOf mo_toOf mo_width mo_drawn mo_seed mo_bundleOf mo_netsRead mo_sent mo_passagesEver mo_astrayEver mo_loopsEver mo_newNodes mo_newPairs mo_due mo_newOne mo_newFrom mo_newTo mo_marks mo_drawing mo_leftOf mo_wayMany mo_wayAt r2 (0 : Int32) (0 : Int32) (0 : Int32) (0 : Int32) mo_reached mo_others mo_h) H := hP
  have hD : va_D A (wdM cI cJ ad mo_pageLength mo_page mo_nodes mo_links mo_fromOf mo_toOf mo_width mo_drawn mo_seed mo_bundleOf mo_netsRead mo_sent mo_passagesEver mo_astrayEver mo_loopsEver mo_newNodes mo_newPairs mo_due mo_newOne mo_newFrom mo_newTo mo_marks mo_drawing mo_leftOf mo_wayMany mo_wayAt r2 (0 : Int32) (0 : Int32) (0 : Int32) (0 : Int32) mo_reached mo_others mo_h) := hD
  refine lv_aload_n hx hb dX6_laySpread_32 rfl (lv_at hl 0 rfl) ?_
  refine lv_iconst (v := (0 : Int32)) hx hb dX6_laySpread_33 (by decide) ?_
  refine va_put (ci := 6) (v := .int (0 : Int32)) (ty := .int) (C := RX6) (T := TX6) (N := 34) hx hb hts hin_X6 tyX6 tyX6_ok nmX6 hown hK hP hD hS 0 rfl rfl 32 (by decide) fl_184 (fun _ h9 => h9) rfl (by decide +kernel) rfl rfl (Nat.le_of_ble_eq_true rfl) dX6_laySpread_34 (fun H locs hP hD hS => ?_)
  have hP : va_P D vwCl (wdM cI cJ ad mo_pageLength mo_page mo_nodes mo_links mo_fromOf mo_toOf mo_width mo_drawn mo_seed mo_bundleOf mo_netsRead mo_sent mo_passagesEver mo_astrayEver mo_loopsEver mo_newNodes mo_newPairs mo_due mo_newOne mo_newFrom mo_newTo mo_marks mo_drawing mo_leftOf mo_wayMany mo_wayAt r2 (0 : Int32) (0 : Int32) (0 : Int32) (0 : Int32) mo_reached (0 : Int32) mo_h) H := hP
  have hD : va_D A (wdM cI cJ ad mo_pageLength mo_page mo_nodes mo_links mo_fromOf mo_toOf mo_width mo_drawn mo_seed mo_bundleOf mo_netsRead mo_sent mo_passagesEver mo_astrayEver mo_loopsEver mo_newNodes mo_newPairs mo_due mo_newOne mo_newFrom mo_newTo mo_marks mo_drawing mo_leftOf mo_wayMany mo_wayAt r2 (0 : Int32) (0 : Int32) (0 : Int32) (0 : Int32) mo_reached (0 : Int32) mo_h) := hD
  refine lv_iconst (v := (0 : Int32)) hx hb dX6_laySpread_37 (by decide) ?_
  refine lv_istore (lv' := [(5, .int (0 : Int32)), (0, .ref (ad 15)), (1, .int x1), (2, .int x2), (3, .int x3), (4, .int x4)]) hx hb dX6_laySpread_38 hl (by decide) rfl (fun ls hl => ?_)
  have lp5 : ∀ (n : Nat) (mo_others_a40 : Int32) (x5_a40 : Int32) (mo_others_o4 : Int32), f_X6_laySpread_L40 mo_links mo_bundleOf mo_marks r2 x2 x3 n mo_others_a40 x5_a40 = some mo_others_o4 → (∀ (H : Heap) (locs : List Loc) (ls : Array Slot), va_P D vwCl (wdM cI cJ ad mo_pageLength mo_page mo_nodes mo_links mo_fromOf mo_toOf mo_width mo_drawn mo_seed mo_bundleOf mo_netsRead mo_sent mo_passagesEver mo_astrayEver mo_loopsEver mo_newNodes mo_newPairs mo_due mo_newOne mo_newFrom mo_newTo mo_marks mo_drawing mo_leftOf mo_wayMany mo_wayAt r2 (0 : Int32) (0 : Int32) (0 : Int32) (0 : Int32) mo_reached mo_others_o4 mo_h) H → va_D A (wdM cI cJ ad mo_pageLength mo_page mo_nodes mo_links mo_fromOf mo_toOf mo_width mo_drawn mo_seed mo_bundleOf mo_netsRead mo_sent mo_passagesEver mo_astrayEver mo_loopsEver mo_newNodes mo_newPairs mo_due mo_newOne mo_newFrom mo_newTo mo_marks mo_drawing mo_leftOf mo_wayMany mo_wayAt r2 (0 : Int32) (0 : Int32) (0 : Int32) (0 : Int32) mo_reached mo_others_o4 mo_h) → va_S A s.heap H locs → lv_has ls 6 [(0, .ref (ad 15)), (1, .int x1), (2, .int x2), (3, .int x3)] → W p l e rm_X6_laySpread s m args below meth c H locs 0 0 Q (F0 m 92 ls [])) → ∀ (H : Heap) (locs : List Loc) (ls : Array Slot), va_P D vwCl (wdM cI cJ ad mo_pageLength mo_page mo_nodes mo_links mo_fromOf mo_toOf mo_width mo_drawn mo_seed mo_bundleOf mo_netsRead mo_sent mo_passagesEver mo_astrayEver mo_loopsEver mo_newNodes mo_newPairs mo_due mo_newOne mo_newFrom mo_newTo mo_marks mo_drawing mo_leftOf mo_wayMany mo_wayAt r2 (0 : Int32) (0 : Int32) (0 : Int32) (0 : Int32) mo_reached mo_others_a40 mo_h) H → va_D A (wdM cI cJ ad mo_pageLength mo_page mo_nodes mo_links mo_fromOf mo_toOf mo_width mo_drawn mo_seed mo_bundleOf mo_netsRead mo_sent mo_passagesEver mo_astrayEver mo_loopsEver mo_newNodes mo_newPairs mo_due mo_newOne mo_newFrom mo_newTo mo_marks mo_drawing mo_leftOf mo_wayMany mo_wayAt r2 (0 : Int32) (0 : Int32) (0 : Int32) (0 : Int32) mo_reached mo_others_a40 mo_h) → va_S A s.heap H locs → lv_has ls 6 [(0, .ref (ad 15)), (1, .int x1), (2, .int x2), (3, .int x3), (5, .int x5_a40)] → W p l e rm_X6_laySpread s m args below meth c H locs 0 0 Q (F0 m 40 ls []) := by
    intro n
    induction n with
    | zero =>
      intro mo_others_a40 x5_a40 mo_others_o4 h0
      exact oo_n h0
    | succ n ih =>
      intro mo_others_a40 x5_a40 mo_others_o4 hf kk H locs ls hP hD hS hl
      rw [f_X6_laySpread_L40_s] at hf
      refine lv_iload hx hb dX6_laySpread_40 (lv_at hl 4 rfl) ?_
      refine lv_aload_n hx hb dX6_laySpread_42 rfl (lv_at hl 0 rfl) ?_
      refine va_get (ci := 6) (v := .int mo_links) (C := RX6) (T := TX6) (N := 34) hx hb hts hin_X6 hown hK hP 0 rfl rfl 3 (by decide) fl_85 (fun _ h9 => h9) rfl dX6_laySpread_43 ?_
      refine lv_icmp_ge (tgt := 92) hx hb dX6_laySpread_46 (by decide) (fun c6 => ?_) (fun c6 => ?_)
      · have hf := oo_t hf c6
        cases hf
        exact kk _ _ _ hP hD hS (lv_sub hl [0, 1, 2, 3] rfl)
      · have hf := oo_f hf c6
        refine lv_aload_n hx hb dX6_laySpread_49 rfl (lv_at hl 0 rfl) ?_
        refine lv_dup hx hb dX6_laySpread_50 rfl ?_
        refine va_get (ci := 6) (v := .int mo_others_a40) (C := RX6) (T := TX6) (N := 34) hx hb hts hin_X6 hown hK hP 0 rfl rfl 32 (by decide) fl_184 (fun _ h9 => h9) rfl dX6_laySpread_51 ?_
        refine lv_iload_n hx hb dX6_laySpread_54 rfl (lv_at hl 2 rfl) ?_
        refine lv_iload hx hb dX6_laySpread_55 (lv_at hl 4 rfl) ?_
        have F : Fr D A _ [] [] (wdM cI cJ ad mo_pageLength mo_page mo_nodes mo_links mo_fromOf mo_toOf mo_width mo_drawn mo_seed mo_bundleOf mo_netsRead mo_sent mo_passagesEver mo_astrayEver mo_loopsEver mo_newNodes mo_newPairs mo_due mo_newOne mo_newFrom mo_newTo mo_marks mo_drawing mo_leftOf mo_wayMany mo_wayAt r2 (0 : Int32) (0 : Int32) (0 : Int32) (0 : Int32) mo_reached mo_others_a40 mo_h) := fr_nil hP hD hS hA
        refine kZ F hS (rS (As := [.int x2, .int x5_a40]) (rest := [.int mo_others_a40, .ref (ad 15)]) ⟨hx, hb, hml, hown, hts⟩ hK hN F (c_X6_has l D cI cJ ad _  x2 x5_a40 (o_res := (f_X6_has x2 x5_a40)) rfl) (cwS 2 hts gX6_laySpread_X6_has rfl rfl rfl (by decide +kernel) ⟨Nat.le_of_ble_eq_true rfl, Nat.le_of_ble_eq_true rfl⟩) rfl hl.1 rfl (Nat.le_of_ble_eq_true rfl) dX6_laySpread_57 ⟨Nat.zero_le _, Nat.zero_le _⟩) (fun H locs hb7 hP hD hS => ?_)
        obtain ⟨k_8, hj10, hf⟩ := oo_b hf
        try dsimp only at hf
        have kj9 : ∀ (H : Heap) (locs : List Loc) (ls : Array Slot), va_P D vwCl (wdM cI cJ ad mo_pageLength mo_page mo_nodes mo_links mo_fromOf mo_toOf mo_width mo_drawn mo_seed mo_bundleOf mo_netsRead mo_sent mo_passagesEver mo_astrayEver mo_loopsEver mo_newNodes mo_newPairs mo_due mo_newOne mo_newFrom mo_newTo mo_marks mo_drawing mo_leftOf mo_wayMany mo_wayAt r2 (0 : Int32) (0 : Int32) (0 : Int32) (0 : Int32) mo_reached mo_others_a40 mo_h) H → va_D A (wdM cI cJ ad mo_pageLength mo_page mo_nodes mo_links mo_fromOf mo_toOf mo_width mo_drawn mo_seed mo_bundleOf mo_netsRead mo_sent mo_passagesEver mo_astrayEver mo_loopsEver mo_newNodes mo_newPairs mo_due mo_newOne mo_newFrom mo_newTo mo_marks mo_drawing mo_leftOf mo_wayMany mo_wayAt r2 (0 : Int32) (0 : Int32) (0 : Int32) (0 : Int32) mo_reached mo_others_a40 mo_h) → va_S A s.heap H locs → lv_has ls 6 [(0, .ref (ad 15)), (1, .int x1), (2, .int x2), (3, .int x3), (5, .int x5_a40)] → W p l e rm_X6_laySpread s m args below meth c H locs 0 0 Q (F0 m 82 ls [.int k_8, .int mo_others_a40, .ref (ad 15)]) := by
          intro H locs ls hP hD hS hl
          refine lv_iadd hx hb dX6_laySpread_82 ?_
          refine va_put (ci := 6) (v := .int (mo_others_a40 + k_8)) (ty := .int) (C := RX6) (T := TX6) (N := 34) hx hb hts hin_X6 tyX6 tyX6_ok nmX6 hown hK hP hD hS 0 rfl rfl 32 (by decide) fl_184 (fun _ h9 => h9) rfl (by decide +kernel) rfl rfl (Nat.le_of_ble_eq_true rfl) dX6_laySpread_83 (fun H locs hP hD hS => ?_)
          have hP : va_P D vwCl (wdM cI cJ ad mo_pageLength mo_page mo_nodes mo_links mo_fromOf mo_toOf mo_width mo_drawn mo_seed mo_bundleOf mo_netsRead mo_sent mo_passagesEver mo_astrayEver mo_loopsEver mo_newNodes mo_newPairs mo_due mo_newOne mo_newFrom mo_newTo mo_marks mo_drawing mo_leftOf mo_wayMany mo_wayAt r2 (0 : Int32) (0 : Int32) (0 : Int32) (0 : Int32) mo_reached (mo_others_a40 + k_8) mo_h) H := hP
          have hD : va_D A (wdM cI cJ ad mo_pageLength mo_page mo_nodes mo_links mo_fromOf mo_toOf mo_width mo_drawn mo_seed mo_bundleOf mo_netsRead mo_sent mo_passagesEver mo_astrayEver mo_loopsEver mo_newNodes mo_newPairs mo_due mo_newOne mo_newFrom mo_newTo mo_marks mo_drawing mo_leftOf mo_wayMany mo_wayAt r2 (0 : Int32) (0 : Int32) (0 : Int32) (0 : Int32) mo_reached (mo_others_a40 + k_8) mo_h) := hD
          refine lv_iinc (v := (x5_a40 + (1 : Int32))) (lv' := [(5, .int (x5_a40 + (1 : Int32))), (0, .ref (ad 15)), (1, .int x1), (2, .int x2), (3, .int x3)]) hx hb dX6_laySpread_86 hl (k := 4) rfl rfl (by decide) rfl (fun ls hl => ?_)
          refine lv_goto (tgt := 40) hx hb dX6_laySpread_89 (by decide) ?_
          exact ih (mo_others_a40 + k_8) (x5_a40 + (1 : Int32)) _ hf kk _ _ _ hP hD hS (lv_sub hl [1, 2, 3, 4, 0] rfl)
        clear hf
        have hf := hj10
        clear hj10
        refine lv_if_ne (tgt := 81) hx hb dX6_laySpread_60 (by decide) (fun c11 => ?_) (fun c11 => ?_)
        · have hf := oo_f hf c11
          refine lv_iconst (v := (0 : Int32)) hx hb dX6_laySpread_81 (by decide) ?_
          cases hf
          exact kj9 _ _ _ hP hD hS (lv_sub hl [0, 1, 2, 3, 4] rfl)
        · have hf := oo_t hf c11
          refine lv_aload_n hx hb dX6_laySpread_63 rfl (lv_at hl 0 rfl) ?_
          refine lv_iload hx hb dX6_laySpread_64 (lv_at hl 4 rfl) ?_
          refine lv_aload_n hx hb dX6_laySpread_66 rfl (lv_at hl 0 rfl) ?_
          refine va_get (ci := 6) (v := .long r2) (C := RX6) (T := TX6) (N := 34) hx hb hts hin_X6 hown hK hP 0 rfl rfl 26 (by decide) fl_169 (fun _ h9 => h9) rfl dX6_laySpread_67 ?_
          refine lv_iload_n hx hb dX6_laySpread_70 rfl (lv_at hl 3 rfl) ?_
          obtain ⟨r13, h12, hf⟩ := oo_b hf
          try dsimp only at hf
          have F : Fr D A _ (wdM cI cJ ad mo_pageLength mo_page mo_nodes mo_links mo_fromOf mo_toOf mo_width mo_drawn mo_seed mo_bundleOf mo_netsRead mo_sent mo_passagesEver mo_astrayEver mo_loopsEver mo_newNodes mo_newPairs mo_due mo_newOne mo_newFrom mo_newTo mo_marks mo_drawing mo_leftOf mo_wayMany mo_wayAt r2 (0 : Int32) (0 : Int32) (0 : Int32) (0 : Int32) mo_reached mo_others_a40 mo_h) (wdM cI cJ ad mo_pageLength mo_page mo_nodes mo_links mo_fromOf mo_toOf mo_width mo_drawn mo_seed mo_bundleOf mo_netsRead mo_sent mo_passagesEver mo_astrayEver mo_loopsEver mo_newNodes mo_newPairs mo_due mo_newOne mo_newFrom mo_newTo mo_marks mo_drawing mo_leftOf mo_wayMany mo_wayAt r2 (0 : Int32) (0 : Int32) (0 : Int32) (0 : Int32) mo_reached mo_others_a40 mo_h) (wdM cI cJ ad mo_pageLength mo_page mo_nodes mo_links mo_fromOf mo_toOf mo_width mo_drawn mo_seed mo_bundleOf mo_netsRead mo_sent mo_passagesEver mo_astrayEver mo_loopsEver mo_newNodes mo_newPairs mo_due mo_newOne mo_newFrom mo_newTo mo_marks mo_drawing mo_leftOf mo_wayMany mo_wayAt r2 (0 : Int32) (0 : Int32) (0 : Int32) (0 : Int32) mo_reached mo_others_a40 mo_h) := fr_self hP hD hS hA
          refine kZ F hS (rV (q := (RX6, TX6, 34)) (As := [.int x5_a40, .long r2, .int x3]) (rest := [.int mo_others_a40, .ref (ad 15)]) ⟨hx, hb, hml, hown, hts⟩ hK hN F (c_X6_matches l D cI cJ ad _ (mo_pageLength := mo_pageLength) (mo_page := mo_page) (mo_nodes := mo_nodes) (mo_links := mo_links) (mo_fromOf := mo_fromOf) (mo_toOf := mo_toOf) (mo_width := mo_width) (mo_drawn := mo_drawn) (mo_seed := mo_seed) (mo_bundleOf := mo_bundleOf) (mo_netsRead := mo_netsRead) (mo_sent := mo_sent) (mo_passagesEver := mo_passagesEver) (mo_astrayEver := mo_astrayEver) (mo_loopsEver := mo_loopsEver) (mo_newNodes := mo_newNodes) (mo_newPairs := mo_newPairs) (mo_due := mo_due) (mo_newOne := mo_newOne) (mo_newFrom := mo_newFrom) (mo_newTo := mo_newTo) (mo_marks := mo_marks) (mo_drawing := mo_drawing) (mo_leftOf := mo_leftOf) (mo_wayMany := mo_wayMany) (mo_wayAt := mo_wayAt) (mo_bitsNow := r2) (mo_passages := (0 : Int32)) (mo_astray := (0 : Int32)) (mo_loops := (0 : Int32)) (mo_steps := (0 : Int32)) (mo_reached := mo_reached) (mo_others := mo_others_a40) (mo_h := mo_h) x5_a40 r2 x3 (o_res := r13) h12) (cwV 3 hts gX6_laySpread_X6_matches rfl rfl rfl (by decide +kernel) ⟨Nat.le_of_ble_eq_true rfl, Nat.le_of_ble_eq_true rfl⟩) (ci := 6) rfl rfl rfl hl.1 rfl (Nat.le_of_ble_eq_true rfl) dX6_laySpread_71 ⟨Nat.zero_le _, Nat.zero_le _⟩) (fun H locs hb14 hP hD hS => ?_)
          refine lv_if_eq (tgt := 81) hx hb dX6_laySpread_74 (by decide) (fun c15 => ?_) (fun c15 => ?_)
          · have hf := oo_t hf c15
            refine lv_iconst (v := (0 : Int32)) hx hb dX6_laySpread_81 (by decide) ?_
            cases hf
            exact kj9 _ _ _ hP hD hS (lv_sub hl [0, 1, 2, 3, 4] rfl)
          · have hf := oo_f hf c15
            refine lv_iconst (v := (1 : Int32)) hx hb dX6_laySpread_77 (by decide) ?_
            refine lv_goto (tgt := 82) hx hb dX6_laySpread_78 (by decide) ?_
            cases hf
            exact kj9 _ _ _ hP hD hS (lv_sub hl [0, 1, 2, 3, 4] rfl)
  obtain ⟨mo_others_o4, h16, hf⟩ := oo_b hf
  try dsimp only at hf
  refine lp5  100 (0 : Int32) (0 : Int32) mo_others_o4 h16 (fun H locs ls hP hD hS hl => ?_) _ _ _ hP hD hS (lv_sub hl [1, 2, 3, 4, 0] rfl)
  refine lv_aload_n hx hb dX6_laySpread_92 rfl (lv_at hl 0 rfl) ?_
  refine lv_iconst (v := (1 : Int32)) hx hb dX6_laySpread_93 (by decide) ?_
  refine lv_iload_n hx hb dX6_laySpread_94 rfl (lv_at hl 1 rfl) ?_
  refine lv_ishl hx hb dX6_laySpread_95 ?_
  refine va_put (ci := 6) (v := .int ((1 : Int32) <<< (x1 &&& 31))) (ty := .int) (C := RX6) (T := TX6) (N := 34) hx hb hts hin_X6 tyX6 tyX6_ok nmX6 hown hK hP hD hS 0 rfl rfl 31 (by decide) fl_191 (fun _ h9 => h9) rfl (by decide +kernel) rfl rfl (Nat.le_of_ble_eq_true rfl) dX6_laySpread_96 (fun H locs hP hD hS => ?_)
  have hP : va_P D vwCl (wdM cI cJ ad mo_pageLength mo_page mo_nodes mo_links mo_fromOf mo_toOf mo_width mo_drawn mo_seed mo_bundleOf mo_netsRead mo_sent mo_passagesEver mo_astrayEver mo_loopsEver mo_newNodes mo_newPairs mo_due mo_newOne mo_newFrom mo_newTo mo_marks mo_drawing mo_leftOf mo_wayMany mo_wayAt r2 (0 : Int32) (0 : Int32) (0 : Int32) (0 : Int32) ((1 : Int32) <<< (x1 &&& 31)) mo_others_o4 mo_h) H := hP
  have hD : va_D A (wdM cI cJ ad mo_pageLength mo_page mo_nodes mo_links mo_fromOf mo_toOf mo_width mo_drawn mo_seed mo_bundleOf mo_netsRead mo_sent mo_passagesEver mo_astrayEver mo_loopsEver mo_newNodes mo_newPairs mo_due mo_newOne mo_newFrom mo_newTo mo_marks mo_drawing mo_leftOf mo_wayMany mo_wayAt r2 (0 : Int32) (0 : Int32) (0 : Int32) (0 : Int32) ((1 : Int32) <<< (x1 &&& 31)) mo_others_o4 mo_h) := hD
  refine lv_aload_n hx hb dX6_laySpread_99 rfl (lv_at hl 0 rfl) ?_
  refine va_get (ci := 6) (v := .int ((1 : Int32) <<< (x1 &&& 31))) (C := RX6) (T := TX6) (N := 34) hx hb hts hin_X6 hown hK hP 0 rfl rfl 31 (by decide) fl_191 (fun _ h9 => h9) rfl dX6_laySpread_100 ?_
  refine lv_istore (lv' := [(5, .int ((1 : Int32) <<< (x1 &&& 31))), (0, .ref (ad 15)), (1, .int x1), (2, .int x2), (3, .int x3)]) hx hb dX6_laySpread_103 hl (by decide) rfl (fun ls hl => ?_)
  have lp22 : ∀ (n : Nat) (mo_passages_a105 : Int32) (mo_astray_a105 : Int32) (mo_loops_a105 : Int32) (mo_steps_a105 : Int32) (mo_reached_a105 : Int32) (x5_a105 : Int32) (mo_passages_o17 : Int32) (mo_astray_o18 : Int32) (mo_loops_o19 : Int32) (mo_steps_o20 : Int32) (mo_reached_o21 : Int32), f_X6_laySpread_L105 mo_links mo_fromOf mo_toOf mo_bundleOf mo_marks r2 x2 x3 n mo_passages_a105 mo_astray_a105 mo_loops_a105 mo_steps_a105 mo_reached_a105 x5_a105 = some (mo_passages_o17, mo_astray_o18, mo_loops_o19, mo_steps_o20, mo_reached_o21) → (∀ (H : Heap) (locs : List Loc) (ls : Array Slot), va_P D vwCl (wdM cI cJ ad mo_pageLength mo_page mo_nodes mo_links mo_fromOf mo_toOf mo_width mo_drawn mo_seed mo_bundleOf mo_netsRead mo_sent mo_passagesEver mo_astrayEver mo_loopsEver mo_newNodes mo_newPairs mo_due mo_newOne mo_newFrom mo_newTo mo_marks mo_drawing mo_leftOf mo_wayMany mo_wayAt r2 mo_passages_o17 mo_astray_o18 mo_loops_o19 mo_steps_o20 mo_reached_o21 mo_others_o4 mo_h) H → va_D A (wdM cI cJ ad mo_pageLength mo_page mo_nodes mo_links mo_fromOf mo_toOf mo_width mo_drawn mo_seed mo_bundleOf mo_netsRead mo_sent mo_passagesEver mo_astrayEver mo_loopsEver mo_newNodes mo_newPairs mo_due mo_newOne mo_newFrom mo_newTo mo_marks mo_drawing mo_leftOf mo_wayMany mo_wayAt r2 mo_passages_o17 mo_astray_o18 mo_loops_o19 mo_steps_o20 mo_reached_o21 mo_others_o4 mo_h) → va_S A s.heap H locs → lv_has ls 6 [] → W p l e rm_X6_laySpread s m args below meth c H locs 0 0 Q (F0 m 133 ls [])) → ∀ (H : Heap) (locs : List Loc) (ls : Array Slot), va_P D vwCl (wdM cI cJ ad mo_pageLength mo_page mo_nodes mo_links mo_fromOf mo_toOf mo_width mo_drawn mo_seed mo_bundleOf mo_netsRead mo_sent mo_passagesEver mo_astrayEver mo_loopsEver mo_newNodes mo_newPairs mo_due mo_newOne mo_newFrom mo_newTo mo_marks mo_drawing mo_leftOf mo_wayMany mo_wayAt r2 mo_passages_a105 mo_astray_a105 mo_loops_a105 mo_steps_a105 mo_reached_a105 mo_others_o4 mo_h) H → va_D A (wdM cI cJ ad mo_pageLength mo_page mo_nodes mo_links mo_fromOf mo_toOf mo_width mo_drawn mo_seed mo_bundleOf mo_netsRead mo_sent mo_passagesEver mo_astrayEver mo_loopsEver mo_newNodes mo_newPairs mo_due mo_newOne mo_newFrom mo_newTo mo_marks mo_drawing mo_leftOf mo_wayMany mo_wayAt r2 mo_passages_a105 mo_astray_a105 mo_loops_a105 mo_steps_a105 mo_reached_a105 mo_others_o4 mo_h) → va_S A s.heap H locs → lv_has ls 6 [(0, .ref (ad 15)), (2, .int x2), (3, .int x3), (5, .int x5_a105)] → W p l e rm_X6_laySpread s m args below meth c H locs 0 0 Q (F0 m 105 ls []) := by
    intro n
    induction n with
    | zero =>
      intro mo_passages_a105 mo_astray_a105 mo_loops_a105 mo_steps_a105 mo_reached_a105 x5_a105 mo_passages_o17 mo_astray_o18 mo_loops_o19 mo_steps_o20 mo_reached_o21 h0
      exact oo_n h0
    | succ n ih =>
      intro mo_passages_a105 mo_astray_a105 mo_loops_a105 mo_steps_a105 mo_reached_a105 x5_a105 mo_passages_o17 mo_astray_o18 mo_loops_o19 mo_steps_o20 mo_reached_o21 hf kk H locs ls hP hD hS hl
      rw [f_X6_laySpread_L105_s] at hf
      refine lv_iload hx hb dX6_laySpread_105 (lv_at hl 3 rfl) ?_
      refine lv_if_eq (tgt := 133) hx hb dX6_laySpread_107 (by decide) (fun c23 => ?_) (fun c23 => ?_)
      · have hf := oo_t hf c23
        cases hf
        exact kk _ _ _ hP hD hS (lv_sub hl [] rfl)
      · have hf := oo_f hf c23
        refine lv_aload_n hx hb dX6_laySpread_110 rfl (lv_at hl 0 rfl) ?_
        refine lv_iload hx hb dX6_laySpread_111 (lv_at hl 3 rfl) ?_
        refine lv_iload_n hx hb dX6_laySpread_113 rfl (lv_at hl 1 rfl) ?_
        refine lv_iload_n hx hb dX6_laySpread_114 rfl (lv_at hl 2 rfl) ?_
        obtain ⟨⟨r25, mo_passages_26, mo_astray_27, mo_loops_28, mo_reached_29⟩, h24, hf⟩ := oo_b hf
        try dsimp only at hf
        have F : Fr D A _ (wdM cI cJ ad mo_pageLength mo_page mo_nodes mo_links mo_fromOf mo_toOf mo_width mo_drawn mo_seed mo_bundleOf mo_netsRead mo_sent mo_passagesEver mo_astrayEver mo_loopsEver mo_newNodes mo_newPairs mo_due mo_newOne mo_newFrom mo_newTo mo_marks mo_drawing mo_leftOf mo_wayMany mo_wayAt r2 mo_passages_a105 mo_astray_a105 mo_loops_a105 mo_steps_a105 mo_reached_a105 mo_others_o4 mo_h) (wdM cI cJ ad mo_pageLength mo_page mo_nodes mo_links mo_fromOf mo_toOf mo_width mo_drawn mo_seed mo_bundleOf mo_netsRead mo_sent mo_passagesEver mo_astrayEver mo_loopsEver mo_newNodes mo_newPairs mo_due mo_newOne mo_newFrom mo_newTo mo_marks mo_drawing mo_leftOf mo_wayMany mo_wayAt r2 mo_passages_26 mo_astray_27 mo_loops_28 mo_steps_a105 mo_reached_29 mo_others_o4 mo_h) (wdM cI cJ ad mo_pageLength mo_page mo_nodes mo_links mo_fromOf mo_toOf mo_width mo_drawn mo_seed mo_bundleOf mo_netsRead mo_sent mo_passagesEver mo_astrayEver mo_loopsEver mo_newNodes mo_newPairs mo_due mo_newOne mo_newFrom mo_newTo mo_marks mo_drawing mo_leftOf mo_wayMany mo_wayAt r2 mo_passages_26 mo_astray_27 mo_loops_28 mo_steps_a105 mo_reached_29 mo_others_o4 mo_h) := fr_self hP hD hS hA
        refine kI F hS (rV (q := (RX6, TX6, 34)) (As := [.int x5_a105, .int x2, .int x3]) (rest := []) ⟨hx, hb, hml, hown, hts⟩ hK hN F (c_X6_goStep l D cI cJ ad _ (mo_pageLength := mo_pageLength) (mo_page := mo_page) (mo_nodes := mo_nodes) (mo_links := mo_links) (mo_fromOf := mo_fromOf) (mo_toOf := mo_toOf) (mo_width := mo_width) (mo_drawn := mo_drawn) (mo_seed := mo_seed) (mo_bundleOf := mo_bundleOf) (mo_netsRead := mo_netsRead) (mo_sent := mo_sent) (mo_passagesEver := mo_passagesEver) (mo_astrayEver := mo_astrayEver) (mo_loopsEver := mo_loopsEver) (mo_newNodes := mo_newNodes) (mo_newPairs := mo_newPairs) (mo_due := mo_due) (mo_newOne := mo_newOne) (mo_newFrom := mo_newFrom) (mo_newTo := mo_newTo) (mo_marks := mo_marks) (mo_drawing := mo_drawing) (mo_leftOf := mo_leftOf) (mo_wayMany := mo_wayMany) (mo_wayAt := mo_wayAt) (mo_bitsNow := r2) (mo_passages := mo_passages_a105) (mo_astray := mo_astray_a105) (mo_loops := mo_loops_a105) (mo_steps := mo_steps_a105) (mo_reached := mo_reached_a105) (mo_others := mo_others_o4) (mo_h := mo_h) x5_a105 x2 x3 (o_res := r25) (o_mo_passages := mo_passages_26) (o_mo_astray := mo_astray_27) (o_mo_loops := mo_loops_28) (o_mo_reached := mo_reached_29) h24) (cwV 3 hts gX6_laySpread_X6_goStep rfl rfl rfl (by decide +kernel) ⟨Nat.le_of_ble_eq_true rfl, Nat.le_of_ble_eq_true rfl⟩) (ci := 6) rfl rfl rfl hl.1 rfl (Nat.le_of_ble_eq_true rfl) dX6_laySpread_115 ⟨Nat.zero_le _, Nat.zero_le _⟩) (fun H locs hP hD hS => ?_)
        refine lv_istore (lv' := [(5, .int r25), (0, .ref (ad 15)), (2, .int x2), (3, .int x3)]) hx hb dX6_laySpread_118 hl (by decide) rfl (fun ls hl => ?_)
        refine lv_aload_n hx hb dX6_laySpread_120 rfl (lv_at hl 1 rfl) ?_
        refine lv_dup hx hb dX6_laySpread_121 rfl ?_
        refine va_get (ci := 6) (v := .int mo_steps_a105) (C := RX6) (T := TX6) (N := 34) hx hb hts hin_X6 hown hK hP 0 rfl rfl 30 (by decide) fl_181 (fun _ h9 => h9) rfl dX6_laySpread_122 ?_
        refine lv_iconst (v := (1 : Int32)) hx hb dX6_laySpread_125 (by decide) ?_
        refine lv_iadd hx hb dX6_laySpread_126 ?_
        refine va_put (ci := 6) (v := .int (mo_steps_a105 + (1 : Int32))) (ty := .int) (C := RX6) (T := TX6) (N := 34) hx hb hts hin_X6 tyX6 tyX6_ok nmX6 hown hK hP hD hS 0 rfl rfl 30 (by decide) fl_181 (fun _ h9 => h9) rfl (by decide +kernel) rfl rfl (Nat.le_of_ble_eq_true rfl) dX6_laySpread_127 (fun H locs hP hD hS => ?_)
        have hP : va_P D vwCl (wdM cI cJ ad mo_pageLength mo_page mo_nodes mo_links mo_fromOf mo_toOf mo_width mo_drawn mo_seed mo_bundleOf mo_netsRead mo_sent mo_passagesEver mo_astrayEver mo_loopsEver mo_newNodes mo_newPairs mo_due mo_newOne mo_newFrom mo_newTo mo_marks mo_drawing mo_leftOf mo_wayMany mo_wayAt r2 mo_passages_26 mo_astray_27 mo_loops_28 (mo_steps_a105 + (1 : Int32)) mo_reached_29 mo_others_o4 mo_h) H := hP
        have hD : va_D A (wdM cI cJ ad mo_pageLength mo_page mo_nodes mo_links mo_fromOf mo_toOf mo_width mo_drawn mo_seed mo_bundleOf mo_netsRead mo_sent mo_passagesEver mo_astrayEver mo_loopsEver mo_newNodes mo_newPairs mo_due mo_newOne mo_newFrom mo_newTo mo_marks mo_drawing mo_leftOf mo_wayMany mo_wayAt r2 mo_passages_26 mo_astray_27 mo_loops_28 (mo_steps_a105 + (1 : Int32)) mo_reached_29 mo_others_o4 mo_h) := hD
        refine lv_goto (tgt := 105) hx hb dX6_laySpread_130 (by decide) ?_
        exact ih mo_passages_26 mo_astray_27 mo_loops_28 (mo_steps_a105 + (1 : Int32)) mo_reached_29 r25 _ _ _ _ _ hf kk _ _ _ hP hD hS (lv_sub hl [1, 2, 3, 0] rfl)
  obtain ⟨⟨mo_passages_o17, mo_astray_o18, mo_loops_o19, mo_steps_o20, mo_reached_o21⟩, h31, hf⟩ := oo_b hf
  try dsimp only at hf
  refine lp22  100 (0 : Int32) (0 : Int32) (0 : Int32) (0 : Int32) ((1 : Int32) <<< (x1 &&& 31)) ((1 : Int32) <<< (x1 &&& 31)) mo_passages_o17 mo_astray_o18 mo_loops_o19 mo_steps_o20 mo_reached_o21 h31 (fun H locs ls hP hD hS hl => ?_) _ _ _ hP hD hS (lv_sub hl [1, 3, 4, 0] rfl)
  cases hf
  exact hret _ _ _ _ dX6_laySpread_133 hP hD hS
def f_X6_common_L4  : Nat → Int32 → Int32 → Option (Int32)
  | 0, _, _ => none
  | n + 1, x2_a4, x3_a4 =>
      if x3_a4 = (0 : Int32) then
        some x2_a4
      else
        if x3_a4 = 0 then none else
        f_X6_common_L4  n x3_a4 (x2_a4 - x2_a4 / x3_a4 * x3_a4)
theorem f_X6_common_L4_s  (n : Nat) (x2_a4 : Int32) (x3_a4 : Int32) : f_X6_common_L4  (n + 1) x2_a4 x3_a4 =
      (if x3_a4 = (0 : Int32) then
        some x2_a4
      else
        if x3_a4 = 0 then none else
        f_X6_common_L4  n x3_a4 (x2_a4 - x2_a4 / x3_a4 * x3_a4)) := rfl
def f_X6_common (x0 : Int32) (x1 : Int32) : Option (Int32) :=
  Option.bind (f_X6_common_L4  100 x0 x1) fun x2_o1 =>
  some x2_o1
abbrev rm_X6_common : Room := { frames := 0, cells := 0, slots := 0, locals := 0 }
set_option maxHeartbeats 4000000 in
set_option maxRecDepth 100000 in
theorem c_X6_common (l : Launch) (D : va_G) (cI cJ : ClassId) (ad : Nat → Nat) (sz : Nat)  (x0 : Int32) (x1 : Int32) {o_res : Int32} (hf : f_X6_common x0 x1 = some o_res) : CtI l yX6_common wsX6_common rm_X6_common D cI cJ [.int x0, .int x1] [] sz o_res [] := by
  refine ctI_of (cc := cX6_common) (maxL := 5) (by decide) rfl (Nat.le_of_ble_eq_true rfl) ?_
  intro p e s m below meth c Q A hx hb hml hown hts hK hN hA hret ls hl hP hD hS
  obtain ⟨args, hargs⟩ : ∃ a : Array Value, a = [.int x0, .int x1].toArray := ⟨_, rfl⟩
  rw [← hargs] at hts hret ⊢
  have hown : s.vm.findClass RX6 = some m.cls := hown
  have hl : lv_has ls 5 [(0, .int x0), (1, .int x1)] := hl
  unfold f_X6_common at hf
  refine lv_iload_n hx hb dX6_common_0 rfl (lv_at hl 0 rfl) ?_
  refine lv_istore_n (lv' := [(2, .int x0), (0, .int x0), (1, .int x1)]) hx hb dX6_common_1 rfl hl (by decide) rfl (fun ls hl => ?_)
  refine lv_iload_n hx hb dX6_common_2 rfl (lv_at hl 2 rfl) ?_
  refine lv_istore_n (lv' := [(3, .int x1), (2, .int x0), (0, .int x0), (1, .int x1)]) hx hb dX6_common_3 rfl hl (by decide) rfl (fun ls hl => ?_)
  have lp2 : ∀ (n : Nat) (x2_a4 : Int32) (x3_a4 : Int32) (x2_o1 : Int32), f_X6_common_L4  n x2_a4 x3_a4 = some x2_o1 → (∀ (H : Heap) (locs : List Loc) (ls : Array Slot), va_P D vwCl [] H → va_D A [] → va_S A s.heap H locs → lv_has ls 5 [(2, .int x2_o1)] → W p l e rm_X6_common s m args below meth c H locs 0 0 Q (F0 m 21 ls [])) → ∀ (H : Heap) (locs : List Loc) (ls : Array Slot), va_P D vwCl [] H → va_D A [] → va_S A s.heap H locs → lv_has ls 5 [(2, .int x2_a4), (3, .int x3_a4)] → W p l e rm_X6_common s m args below meth c H locs 0 0 Q (F0 m 4 ls []) := by
    intro n
    induction n with
    | zero =>
      intro x2_a4 x3_a4 x2_o1 h0
      exact oo_n h0
    | succ n ih =>
      intro x2_a4 x3_a4 x2_o1 hf kk H locs ls hP hD hS hl
      rw [f_X6_common_L4_s] at hf
      refine lv_iload_n hx hb dX6_common_4 rfl (lv_at hl 1 rfl) ?_
      refine lv_if_eq (tgt := 21) hx hb dX6_common_5 (by decide) (fun c3 => ?_) (fun c3 => ?_)
      · have hf := oo_t hf c3
        cases hf
        exact kk _ _ _ hP hD hS (lv_sub hl [0] rfl)
      · have hf := oo_f hf c3
        refine lv_iload_n hx hb dX6_common_8 rfl (lv_at hl 0 rfl) ?_
        refine lv_iload_n hx hb dX6_common_9 rfl (lv_at hl 1 rfl) ?_
        obtain ⟨g4, hf⟩ := oo_g hf
        refine lv_irem hx hb dX6_common_10 g4 ?_
        refine lv_istore (lv' := [(4, .int (x2_a4 - x2_a4 / x3_a4 * x3_a4)), (2, .int x2_a4), (3, .int x3_a4)]) hx hb dX6_common_11 hl (by decide) rfl (fun ls hl => ?_)
        refine lv_iload_n hx hb dX6_common_13 rfl (lv_at hl 2 rfl) ?_
        refine lv_istore_n (lv' := [(2, .int x3_a4), (4, .int (x2_a4 - x2_a4 / x3_a4 * x3_a4)), (3, .int x3_a4)]) hx hb dX6_common_14 rfl hl (by decide) rfl (fun ls hl => ?_)
        refine lv_iload hx hb dX6_common_15 (lv_at hl 1 rfl) ?_
        refine lv_istore_n (lv' := [(3, .int (x2_a4 - x2_a4 / x3_a4 * x3_a4)), (2, .int x3_a4), (4, .int (x2_a4 - x2_a4 / x3_a4 * x3_a4))]) hx hb dX6_common_17 rfl hl (by decide) rfl (fun ls hl => ?_)
        refine lv_goto (tgt := 4) hx hb dX6_common_18 (by decide) ?_
        exact ih x3_a4 (x2_a4 - x2_a4 / x3_a4 * x3_a4) _ hf kk _ _ _ hP hD hS (lv_sub hl [1, 0] rfl)
  obtain ⟨x2_o1, h5, hf⟩ := oo_b hf
  try dsimp only at hf
  refine lp2  100 x0 x1 x2_o1 h5 (fun H locs ls hP hD hS hl => ?_) _ _ _ hP hD hS (lv_sub hl [1, 0] rfl)
  refine lv_iload_n hx hb dX6_common_21 rfl (lv_at hl 0 rfl) ?_
  cases hf
  exact hret _ _ _ _ dX6_common_22 hP hD hS
def f_X6_odds_L7 (mo_width : Int32) (mo_drawn : Int32) (mo_bitsNow : Int64) : Nat → Int32 → Int32 → Int32 → Option (Int32 × Int32)
  | 0, _, _, _ => none
  | n + 1, x2_a7, x3_a7, x4_a7 =>
      if mo_drawn ≤ x4_a7 then
        some (x2_a7, x3_a7)
      else
        Option.bind (f_X6_ones mo_bitsNow) fun r6 =>
        f_X6_odds_L7 mo_width mo_drawn mo_bitsNow n (x2_a7 * r6) (x3_a7 * mo_width) (x4_a7 + (1 : Int32))
theorem f_X6_odds_L7_s (mo_width : Int32) (mo_drawn : Int32) (mo_bitsNow : Int64) (n : Nat) (x2_a7 : Int32) (x3_a7 : Int32) (x4_a7 : Int32) : f_X6_odds_L7 mo_width mo_drawn mo_bitsNow (n + 1) x2_a7 x3_a7 x4_a7 =
      (if mo_drawn ≤ x4_a7 then
        some (x2_a7, x3_a7)
      else
        Option.bind (f_X6_ones mo_bitsNow) fun r6 =>
        f_X6_odds_L7 mo_width mo_drawn mo_bitsNow n (x2_a7 * r6) (x3_a7 * mo_width) (x4_a7 + (1 : Int32))) := rfl
def f_X6_odds (mo_width : Int32) (mo_drawn : Int32) (mo_bitsNow : Int64) (x1 : Int32) : Option (Int32) :=
  Option.bind (f_X6_odds_L7 mo_width mo_drawn mo_bitsNow 100 (1 : Int32) (1 : Int32) (0 : Int32)) fun (x2_o1, x3_o2) =>
  Option.bind (f_X6_common x2_o1 x3_o2) fun r12 =>
  if r12 = 0 then none else
  some ((if x1 = (0 : Int32) then x2_o1 else x3_o2) / r12)
abbrev rm_X6_odds : Room := { frames := 1, cells := 0, slots := 0, locals := 24 }
set_option maxHeartbeats 4000000 in
set_option maxRecDepth 100000 in
theorem c_X6_odds (l : Launch) (D : va_G) (cI cJ : ClassId) (ad : Nat → Nat) (sz : Nat) {mo_pageLength : Int32} {mo_page : Nat → Int32} {mo_nodes mo_links : Int32} {mo_fromOf mo_toOf : Nat → Int32} {mo_width mo_drawn mo_seed : Int32} {mo_bundleOf : Nat → Int32} {mo_netsRead mo_sent mo_passagesEver mo_astrayEver mo_loopsEver mo_newNodes mo_newPairs mo_due mo_newOne : Int32} {mo_newFrom mo_newTo : Nat → Int32} {mo_marks : Nat → Int64} {mo_drawing : Int64} {mo_leftOf : Nat → Int32} {mo_wayMany : Int32} {mo_wayAt : Nat → Int32} {mo_bitsNow : Int64} {mo_passages mo_astray mo_loops mo_steps mo_reached mo_others : Int32} {mo_h : Int64} (x1 : Int32) {o_res : Int32} (hf : f_X6_odds mo_width mo_drawn mo_bitsNow x1 = some o_res) : CtI l yX6_odds wsX6_odds rm_X6_odds D cI cJ [.ref (ad 15), .int x1] (wdM cI cJ ad mo_pageLength mo_page mo_nodes mo_links mo_fromOf mo_toOf mo_width mo_drawn mo_seed mo_bundleOf mo_netsRead mo_sent mo_passagesEver mo_astrayEver mo_loopsEver mo_newNodes mo_newPairs mo_due mo_newOne mo_newFrom mo_newTo mo_marks mo_drawing mo_leftOf mo_wayMany mo_wayAt mo_bitsNow mo_passages mo_astray mo_loops mo_steps mo_reached mo_others mo_h) sz o_res (wdM cI cJ ad mo_pageLength mo_page mo_nodes mo_links mo_fromOf mo_toOf mo_width mo_drawn mo_seed mo_bundleOf mo_netsRead mo_sent mo_passagesEver mo_astrayEver mo_loopsEver mo_newNodes mo_newPairs mo_due mo_newOne mo_newFrom mo_newTo mo_marks mo_drawing mo_leftOf mo_wayMany mo_wayAt mo_bitsNow mo_passages mo_astray mo_loops mo_steps mo_reached mo_others mo_h) := by
  refine ctI_of (cc := cX6_odds) (maxL := 5) (by decide) rfl (Nat.le_of_ble_eq_true rfl) ?_
  intro p e s m below meth c Q A hx hb hml hown hts hK hN hA hret ls hl hP hD hS
  obtain ⟨args, hargs⟩ : ∃ a : Array Value, a = [.ref (ad 15), .int x1].toArray := ⟨_, rfl⟩
  rw [← hargs] at hts hret ⊢
  have hown : s.vm.findClass RX6 = some m.cls := hown
  have hl : lv_has ls 5 [(0, .ref (ad 15)), (1, .int x1)] := hl
  have hin_X6 : ∀ w ∈ wsX60, w ∈ wsX6_odds := fun _ h => List.mem_cons_of_mem _ (List.mem_append_right _ h)
  have fl_19 : (Cond.fieldLink RX6 19 "FoldedWaysModel" "width" "I").before args s = true := hat hts 3 rfl
  have fl_23 : (Cond.fieldLink RX6 23 "FoldedWaysModel" "drawn" "I").before args s = true := hat hts 1 rfl
  have fl_169 : (Cond.fieldLink RX6 169 "FoldedWaysModel" "bitsNow" "J").before args s = true := hat hts 2 rfl
  unfold f_X6_odds at hf
  refine lv_iconst (v := (1 : Int32)) hx hb dX6_odds_0 (by decide) ?_
  refine lv_istore_n (lv' := [(2, .int (1 : Int32)), (0, .ref (ad 15)), (1, .int x1)]) hx hb dX6_odds_1 rfl hl (by decide) rfl (fun ls hl => ?_)
  refine lv_iconst (v := (1 : Int32)) hx hb dX6_odds_2 (by decide) ?_
  refine lv_istore_n (lv' := [(3, .int (1 : Int32)), (2, .int (1 : Int32)), (0, .ref (ad 15)), (1, .int x1)]) hx hb dX6_odds_3 rfl hl (by decide) rfl (fun ls hl => ?_)
  refine lv_iconst (v := (0 : Int32)) hx hb dX6_odds_4 (by decide) ?_
  refine lv_istore (lv' := [(4, .int (0 : Int32)), (3, .int (1 : Int32)), (2, .int (1 : Int32)), (0, .ref (ad 15)), (1, .int x1)]) hx hb dX6_odds_5 hl (by decide) rfl (fun ls hl => ?_)
  have lp3 : ∀ (n : Nat) (x2_a7 : Int32) (x3_a7 : Int32) (x4_a7 : Int32) (x2_o1 : Int32) (x3_o2 : Int32), f_X6_odds_L7 mo_width mo_drawn mo_bitsNow n x2_a7 x3_a7 x4_a7 = some (x2_o1, x3_o2) → (∀ (H : Heap) (locs : List Loc) (ls : Array Slot), va_P D vwCl (wdM cI cJ ad mo_pageLength mo_page mo_nodes mo_links mo_fromOf mo_toOf mo_width mo_drawn mo_seed mo_bundleOf mo_netsRead mo_sent mo_passagesEver mo_astrayEver mo_loopsEver mo_newNodes mo_newPairs mo_due mo_newOne mo_newFrom mo_newTo mo_marks mo_drawing mo_leftOf mo_wayMany mo_wayAt mo_bitsNow mo_passages mo_astray mo_loops mo_steps mo_reached mo_others mo_h) H → va_D A (wdM cI cJ ad mo_pageLength mo_page mo_nodes mo_links mo_fromOf mo_toOf mo_width mo_drawn mo_seed mo_bundleOf mo_netsRead mo_sent mo_passagesEver mo_astrayEver mo_loopsEver mo_newNodes mo_newPairs mo_due mo_newOne mo_newFrom mo_newTo mo_marks mo_drawing mo_leftOf mo_wayMany mo_wayAt mo_bitsNow mo_passages mo_astray mo_loops mo_steps mo_reached mo_others mo_h) → va_S A s.heap H locs → lv_has ls 5 [(1, .int x1), (2, .int x2_o1), (3, .int x3_o2)] → W p l e rm_X6_odds s m args below meth c H locs 0 0 Q (F0 m 39 ls [])) → ∀ (H : Heap) (locs : List Loc) (ls : Array Slot), va_P D vwCl (wdM cI cJ ad mo_pageLength mo_page mo_nodes mo_links mo_fromOf mo_toOf mo_width mo_drawn mo_seed mo_bundleOf mo_netsRead mo_sent mo_passagesEver mo_astrayEver mo_loopsEver mo_newNodes mo_newPairs mo_due mo_newOne mo_newFrom mo_newTo mo_marks mo_drawing mo_leftOf mo_wayMany mo_wayAt mo_bitsNow mo_passages mo_astray mo_loops mo_steps mo_reached mo_others mo_h) H → va_D A (wdM cI cJ ad mo_pageLength mo_page mo_nodes mo_links mo_fromOf mo_toOf mo_width mo_drawn mo_seed mo_bundleOf mo_netsRead mo_sent mo_passagesEver mo_astrayEver mo_loopsEver mo_newNodes mo_newPairs mo_due mo_newOne mo_newFrom mo_newTo mo_marks mo_drawing mo_leftOf mo_wayMany mo_wayAt mo_bitsNow mo_passages mo_astray mo_loops mo_steps mo_reached mo_others mo_h) → va_S A s.heap H locs → lv_has ls 5 [(0, .ref (ad 15)), (1, .int x1), (2, .int x2_a7), (3, .int x3_a7), (4, .int x4_a7)] → W p l e rm_X6_odds s m args below meth c H locs 0 0 Q (F0 m 7 ls []) := by
    intro n
    induction n with
    | zero =>
      intro x2_a7 x3_a7 x4_a7 x2_o1 x3_o2 h0
      exact oo_n h0
    | succ n ih =>
      intro x2_a7 x3_a7 x4_a7 x2_o1 x3_o2 hf kk H locs ls hP hD hS hl
      rw [f_X6_odds_L7_s] at hf
      refine lv_iload hx hb dX6_odds_7 (lv_at hl 4 rfl) ?_
      refine lv_aload_n hx hb dX6_odds_9 rfl (lv_at hl 0 rfl) ?_
      refine va_get (ci := 6) (v := .int mo_drawn) (C := RX6) (T := TX6) (N := 34) hx hb hts hin_X6 hown hK hP 0 rfl rfl 7 (by decide) fl_23 (fun _ h9 => h9) rfl dX6_odds_10 ?_
      refine lv_icmp_ge (tgt := 39) hx hb dX6_odds_13 (by decide) (fun c4 => ?_) (fun c4 => ?_)
      · have hf := oo_t hf c4
        cases hf
        exact kk _ _ _ hP hD hS (lv_sub hl [1, 2, 3] rfl)
      · have hf := oo_f hf c4
        refine lv_iload_n hx hb dX6_odds_16 rfl (lv_at hl 2 rfl) ?_
        refine lv_aload_n hx hb dX6_odds_17 rfl (lv_at hl 0 rfl) ?_
        refine va_get (ci := 6) (v := .long mo_bitsNow) (C := RX6) (T := TX6) (N := 34) hx hb hts hin_X6 hown hK hP 0 rfl rfl 26 (by decide) fl_169 (fun _ h9 => h9) rfl dX6_odds_18 ?_
        obtain ⟨r6, h5, hf⟩ := oo_b hf
        try dsimp only at hf
        have F : Fr D A _ [] [] (wdM cI cJ ad mo_pageLength mo_page mo_nodes mo_links mo_fromOf mo_toOf mo_width mo_drawn mo_seed mo_bundleOf mo_netsRead mo_sent mo_passagesEver mo_astrayEver mo_loopsEver mo_newNodes mo_newPairs mo_due mo_newOne mo_newFrom mo_newTo mo_marks mo_drawing mo_leftOf mo_wayMany mo_wayAt mo_bitsNow mo_passages mo_astray mo_loops mo_steps mo_reached mo_others mo_h) := fr_nil hP hD hS hA
        refine kI F hS (rS (As := [.long mo_bitsNow]) (rest := [.int x2_a7]) ⟨hx, hb, hml, hown, hts⟩ hK hN F (c_X6_ones l D cI cJ ad _  mo_bitsNow (o_res := r6) h5) (cwS 1 hts gX6_odds_X6_ones rfl rfl rfl (by decide +kernel) ⟨Nat.le_of_ble_eq_true rfl, Nat.le_of_ble_eq_true rfl⟩) rfl hl.1 rfl (Nat.le_of_ble_eq_true rfl) dX6_odds_21 ⟨Nat.zero_le _, Nat.zero_le _⟩) (fun H locs hP hD hS => ?_)
        refine lv_imul hx hb dX6_odds_24 ?_
        refine lv_istore_n (lv' := [(2, .int (x2_a7 * r6)), (0, .ref (ad 15)), (1, .int x1), (3, .int x3_a7), (4, .int x4_a7)]) hx hb dX6_odds_25 rfl hl (by decide) rfl (fun ls hl => ?_)
        refine lv_iload_n hx hb dX6_odds_26 rfl (lv_at hl 3 rfl) ?_
        refine lv_aload_n hx hb dX6_odds_27 rfl (lv_at hl 1 rfl) ?_
        refine va_get (ci := 6) (v := .int mo_width) (C := RX6) (T := TX6) (N := 34) hx hb hts hin_X6 hown hK hP 0 rfl rfl 6 (by decide) fl_19 (fun _ h9 => h9) rfl dX6_odds_28 ?_
        refine lv_imul hx hb dX6_odds_31 ?_
        refine lv_istore_n (lv' := [(3, .int (x3_a7 * mo_width)), (2, .int (x2_a7 * r6)), (0, .ref (ad 15)), (1, .int x1), (4, .int x4_a7)]) hx hb dX6_odds_32 rfl hl (by decide) rfl (fun ls hl => ?_)
        refine lv_iinc (v := (x4_a7 + (1 : Int32))) (lv' := [(4, .int (x4_a7 + (1 : Int32))), (3, .int (x3_a7 * mo_width)), (2, .int (x2_a7 * r6)), (0, .ref (ad 15)), (1, .int x1)]) hx hb dX6_odds_33 hl (k := 4) rfl rfl (by decide) rfl (fun ls hl => ?_)
        refine lv_goto (tgt := 7) hx hb dX6_odds_36 (by decide) ?_
        exact ih (x2_a7 * r6) (x3_a7 * mo_width) (x4_a7 + (1 : Int32)) _ _ hf kk _ _ _ hP hD hS (lv_sub hl [3, 4, 2, 1, 0] rfl)
  obtain ⟨⟨x2_o1, x3_o2⟩, h8, hf⟩ := oo_b hf
  try dsimp only at hf
  refine lp3  100 (1 : Int32) (1 : Int32) (0 : Int32) x2_o1 x3_o2 h8 (fun H locs ls hP hD hS hl => ?_) _ _ _ hP hD hS (lv_sub hl [3, 4, 2, 1, 0] rfl)
  refine lv_iload_n hx hb dX6_odds_39 rfl (lv_at hl 0 rfl) ?_
  have kj10 : ∀ (k_9 : Int32), k_9 = (if x1 = (0 : Int32) then x2_o1 else x3_o2) → ∀ (H : Heap) (locs : List Loc) (ls : Array Slot), va_P D vwCl (wdM cI cJ ad mo_pageLength mo_page mo_nodes mo_links mo_fromOf mo_toOf mo_width mo_drawn mo_seed mo_bundleOf mo_netsRead mo_sent mo_passagesEver mo_astrayEver mo_loopsEver mo_newNodes mo_newPairs mo_due mo_newOne mo_newFrom mo_newTo mo_marks mo_drawing mo_leftOf mo_wayMany mo_wayAt mo_bitsNow mo_passages mo_astray mo_loops mo_steps mo_reached mo_others mo_h) H → va_D A (wdM cI cJ ad mo_pageLength mo_page mo_nodes mo_links mo_fromOf mo_toOf mo_width mo_drawn mo_seed mo_bundleOf mo_netsRead mo_sent mo_passagesEver mo_astrayEver mo_loopsEver mo_newNodes mo_newPairs mo_due mo_newOne mo_newFrom mo_newTo mo_marks mo_drawing mo_leftOf mo_wayMany mo_wayAt mo_bitsNow mo_passages mo_astray mo_loops mo_steps mo_reached mo_others mo_h) → va_S A s.heap H locs → lv_has ls 5 [(2, .int x2_o1), (3, .int x3_o2)] → W p l e rm_X6_odds s m args below meth c H locs 0 0 Q (F0 m 48 ls [.int k_9]) := by
    intro k_9 ek_9
    subst ek_9
    intro H locs ls hP hD hS hl
    refine lv_iload_n hx hb dX6_odds_48 rfl (lv_at hl 0 rfl) ?_
    refine lv_iload_n hx hb dX6_odds_49 rfl (lv_at hl 1 rfl) ?_
    obtain ⟨r12, h11, hf⟩ := oo_b hf
    try dsimp only at hf
    have F : Fr D A _ [] [] (wdM cI cJ ad mo_pageLength mo_page mo_nodes mo_links mo_fromOf mo_toOf mo_width mo_drawn mo_seed mo_bundleOf mo_netsRead mo_sent mo_passagesEver mo_astrayEver mo_loopsEver mo_newNodes mo_newPairs mo_due mo_newOne mo_newFrom mo_newTo mo_marks mo_drawing mo_leftOf mo_wayMany mo_wayAt mo_bitsNow mo_passages mo_astray mo_loops mo_steps mo_reached mo_others mo_h) := fr_nil hP hD hS hA
    refine kI F hS (rS (As := [.int x2_o1, .int x3_o2]) (rest := [.int (if x1 = (0 : Int32) then x2_o1 else x3_o2)]) ⟨hx, hb, hml, hown, hts⟩ hK hN F (c_X6_common l D cI cJ ad _  x2_o1 x3_o2 (o_res := r12) h11) (cwS 2 hts gX6_odds_X6_common rfl rfl rfl (by decide +kernel) ⟨Nat.le_of_ble_eq_true rfl, Nat.le_of_ble_eq_true rfl⟩) rfl hl.1 rfl (Nat.le_of_ble_eq_true rfl) dX6_odds_50 ⟨Nat.zero_le _, Nat.zero_le _⟩) (fun H locs hP hD hS => ?_)
    obtain ⟨g14, hf⟩ := oo_g hf
    refine lv_idiv hx hb dX6_odds_53 g14 ?_
    cases hf
    exact hret _ _ _ _ dX6_odds_54 hP hD hS
  refine lv_if_ne (tgt := 47) hx hb dX6_odds_40 (by decide) (fun c15 => ?_) (fun c15 => ?_)
  · refine lv_iload_n hx hb dX6_odds_47 rfl (lv_at hl 2 rfl) ?_
    exact kj10 x3_o2 (if_neg c15).symm _ _ _ hP hD hS (lv_sub hl [1, 2] rfl)
  · refine lv_iload_n hx hb dX6_odds_43 rfl (lv_at hl 1 rfl) ?_
    refine lv_goto (tgt := 48) hx hb dX6_odds_44 (by decide) ?_
    exact kj10 x2_o1 (if_pos c15).symm _ _ _ hP hD hS (lv_sub hl [1, 2] rfl)
