def f_X6_layWay_L30 (mo_links : Int32) (mo_fromOf : Nat → Int32) (mo_toOf : Nat → Int32) (mo_leftOf_2 : Nat → Int32) (x2 : Int32) : Nat → Int32 → (Nat → Int32) → Int32 → Int32 → Option (Int32 × (Nat → Int32))
  | 0, _, _, _, _ => none
  | n + 1, mo_wayMany_a30, mo_wayAt_a30, x3_a30, x4_a30 =>
      if x4_a30 = (0 : Int32) then
        some (mo_wayMany_a30, mo_wayAt_a30)
      else
        if mo_wayMany_a30 < 0 ∨ 6 ≤ (mo_wayMany_a30).toNatClampNeg then none else
        Option.bind (α := Int32) (if (if x3_a30 = x2 then (0 : Int32) else (1 : Int32)) = (0 : Int32) then
            some x3_a30
          else
            Option.bind (f_X6_nextNode mo_links mo_fromOf mo_toOf mo_leftOf_2 x3_a30) fun r19 =>
            some r19) fun k_14 =>
        f_X6_layWay_L30 mo_links mo_fromOf mo_toOf mo_leftOf_2 x2 n (mo_wayMany_a30 + (1 : Int32)) (upd mo_wayAt_a30 (mo_wayMany_a30).toNatClampNeg x3_a30) k_14 (if x3_a30 = x2 then (0 : Int32) else (1 : Int32))
theorem f_X6_layWay_L30_s (mo_links : Int32) (mo_fromOf : Nat → Int32) (mo_toOf : Nat → Int32) (mo_leftOf_2 : Nat → Int32) (x2 : Int32) (n : Nat) (mo_wayMany_a30 : Int32) (mo_wayAt_a30 : Nat → Int32) (x3_a30 : Int32) (x4_a30 : Int32) : f_X6_layWay_L30 mo_links mo_fromOf mo_toOf mo_leftOf_2 x2 (n + 1) mo_wayMany_a30 mo_wayAt_a30 x3_a30 x4_a30 =
      (if x4_a30 = (0 : Int32) then
        some (mo_wayMany_a30, mo_wayAt_a30)
      else
        if mo_wayMany_a30 < 0 ∨ 6 ≤ (mo_wayMany_a30).toNatClampNeg then none else
        Option.bind (α := Int32) (if (if x3_a30 = x2 then (0 : Int32) else (1 : Int32)) = (0 : Int32) then
            some x3_a30
          else
            Option.bind (f_X6_nextNode mo_links mo_fromOf mo_toOf mo_leftOf_2 x3_a30) fun r19 =>
            some r19) fun k_14 =>
        f_X6_layWay_L30 mo_links mo_fromOf mo_toOf mo_leftOf_2 x2 n (mo_wayMany_a30 + (1 : Int32)) (upd mo_wayAt_a30 (mo_wayMany_a30).toNatClampNeg x3_a30) k_14 (if x3_a30 = x2 then (0 : Int32) else (1 : Int32))) := rfl
def f_X6_layWay (mo_nodes : Int32) (mo_links : Int32) (mo_fromOf : Nat → Int32) (mo_toOf : Nat → Int32) (mo_leftOf : Nat → Int32) (mo_wayAt : Nat → Int32) (x1 : Int32) (x2 : Int32) : Option ((Nat → Int32) × Int32 × (Nat → Int32)) :=
  Option.bind (f_X6_layLeft mo_nodes mo_links mo_fromOf mo_toOf mo_leftOf x2) fun mo_leftOf_2 =>
  if x1 < 0 ∨ 6 ≤ (x1).toNatClampNeg then none else
  Option.bind (f_X6_layWay_L30 mo_links mo_fromOf mo_toOf mo_leftOf_2 x2 100 (0 : Int32) mo_wayAt x1 (if (6 : Int32) ≤ (mo_leftOf_2 (x1).toNatClampNeg) then (0 : Int32) else (1 : Int32))) fun (mo_wayMany_o7, mo_wayAt_o8) =>
  some (mo_leftOf_2, mo_wayMany_o7, mo_wayAt_o8)
abbrev rm_X6_layWay : Room := { frames := 1, cells := 0, slots := 0, locals := 24 }
set_option maxHeartbeats 4000000 in
set_option maxRecDepth 100000 in
theorem c_X6_layWay (l : Launch) (D : va_G) (cI cJ : ClassId) (ad : Nat → Nat) (sz : Nat) {mo_pageLength : Int32} {mo_page : Nat → Int32} {mo_nodes mo_links : Int32} {mo_fromOf mo_toOf : Nat → Int32} {mo_width mo_drawn mo_seed : Int32} {mo_bundleOf : Nat → Int32} {mo_netsRead mo_sent mo_passagesEver mo_astrayEver mo_loopsEver mo_newNodes mo_newPairs mo_due mo_newOne : Int32} {mo_newFrom mo_newTo : Nat → Int32} {mo_marks : Nat → Int64} {mo_drawing : Int64} {mo_leftOf : Nat → Int32} {mo_wayMany : Int32} {mo_wayAt : Nat → Int32} {mo_bitsNow : Int64} {mo_passages mo_astray mo_loops mo_steps mo_reached mo_others : Int32} {mo_h : Int64} (x1 : Int32) (x2 : Int32) {o_mo_leftOf : Nat → Int32} {o_mo_wayMany : Int32} {o_mo_wayAt : Nat → Int32} (hf : f_X6_layWay mo_nodes mo_links mo_fromOf mo_toOf mo_leftOf mo_wayAt x1 x2 = some (o_mo_leftOf, o_mo_wayMany, o_mo_wayAt)) : CtV l yX6_layWay wsX6_layWay rm_X6_layWay D cI cJ [.ref (ad 15), .int x1, .int x2] (wdM cI cJ ad mo_pageLength mo_page mo_nodes mo_links mo_fromOf mo_toOf mo_width mo_drawn mo_seed mo_bundleOf mo_netsRead mo_sent mo_passagesEver mo_astrayEver mo_loopsEver mo_newNodes mo_newPairs mo_due mo_newOne mo_newFrom mo_newTo mo_marks mo_drawing mo_leftOf mo_wayMany mo_wayAt mo_bitsNow mo_passages mo_astray mo_loops mo_steps mo_reached mo_others mo_h) sz (wdM cI cJ ad mo_pageLength mo_page mo_nodes mo_links mo_fromOf mo_toOf mo_width mo_drawn mo_seed mo_bundleOf mo_netsRead mo_sent mo_passagesEver mo_astrayEver mo_loopsEver mo_newNodes mo_newPairs mo_due mo_newOne mo_newFrom mo_newTo mo_marks mo_drawing o_mo_leftOf o_mo_wayMany o_mo_wayAt mo_bitsNow mo_passages mo_astray mo_loops mo_steps mo_reached mo_others mo_h) := by
  refine ctV_of (cc := cX6_layWay) (maxL := 5) (by decide) rfl (Nat.le_of_ble_eq_true rfl) ?_
  intro p e s m below meth c Q A hx hb hml hown hts hK hN hA hret ls hl hP hD hS
  obtain ⟨args, hargs⟩ : ∃ a : Array Value, a = [.ref (ad 15), .int x1, .int x2].toArray := ⟨_, rfl⟩
  rw [← hargs] at hts hret ⊢
  have hown : s.vm.findClass RX6 = some m.cls := hown
  have hl : lv_has ls 5 [(0, .ref (ad 15)), (1, .int x1), (2, .int x2)] := hl
  have hin_X6 : ∀ w ∈ wsX60, w ∈ wsX6_layWay := fun _ h => List.mem_cons_of_mem _ (List.mem_append_right _ h)
  have fl_42 : (Cond.fieldLink RX6 42 "FoldedWaysModel" "leftOf" "[I").before args s = true := hat hts 2 rfl
  have fl_45 : (Cond.fieldLink RX6 45 "FoldedWaysModel" "wayAt" "[I").before args s = true := hat hts 3 rfl
  have fl_134 : (Cond.fieldLink RX6 134 "FoldedWaysModel" "wayMany" "I").before args s = true := hat hts 1 rfl
  unfold f_X6_layWay at hf
  refine lv_aload_n hx hb dX6_layWay_0 rfl (lv_at hl 0 rfl) ?_
  refine lv_iload_n hx hb dX6_layWay_1 rfl (lv_at hl 2 rfl) ?_
  obtain ⟨mo_leftOf_2, h1, hf⟩ := oo_b hf
  try dsimp only at hf
  have F : Fr D A _ (wdM cI cJ ad mo_pageLength mo_page mo_nodes mo_links mo_fromOf mo_toOf mo_width mo_drawn mo_seed mo_bundleOf mo_netsRead mo_sent mo_passagesEver mo_astrayEver mo_loopsEver mo_newNodes mo_newPairs mo_due mo_newOne mo_newFrom mo_newTo mo_marks mo_drawing mo_leftOf mo_wayMany mo_wayAt mo_bitsNow mo_passages mo_astray mo_loops mo_steps mo_reached mo_others mo_h) (wdM cI cJ ad mo_pageLength mo_page mo_nodes mo_links mo_fromOf mo_toOf mo_width mo_drawn mo_seed mo_bundleOf mo_netsRead mo_sent mo_passagesEver mo_astrayEver mo_loopsEver mo_newNodes mo_newPairs mo_due mo_newOne mo_newFrom mo_newTo mo_marks mo_drawing mo_leftOf_2 mo_wayMany mo_wayAt mo_bitsNow mo_passages mo_astray mo_loops mo_steps mo_reached mo_others mo_h) (wdM cI cJ ad mo_pageLength mo_page mo_nodes mo_links mo_fromOf mo_toOf mo_width mo_drawn mo_seed mo_bundleOf mo_netsRead mo_sent mo_passagesEver mo_astrayEver mo_loopsEver mo_newNodes mo_newPairs mo_due mo_newOne mo_newFrom mo_newTo mo_marks mo_drawing mo_leftOf_2 mo_wayMany mo_wayAt mo_bitsNow mo_passages mo_astray mo_loops mo_steps mo_reached mo_others mo_h) := fr_self hP hD hS hA
  refine kV F hS (rV (q := (RX6, TX6, 34)) (As := [.int x2]) (rest := []) ⟨hx, hb, hml, hown, hts⟩ hK hN F (c_X6_layLeft l D cI cJ ad _ (mo_pageLength := mo_pageLength) (mo_page := mo_page) (mo_nodes := mo_nodes) (mo_links := mo_links) (mo_fromOf := mo_fromOf) (mo_toOf := mo_toOf) (mo_width := mo_width) (mo_drawn := mo_drawn) (mo_seed := mo_seed) (mo_bundleOf := mo_bundleOf) (mo_netsRead := mo_netsRead) (mo_sent := mo_sent) (mo_passagesEver := mo_passagesEver) (mo_astrayEver := mo_astrayEver) (mo_loopsEver := mo_loopsEver) (mo_newNodes := mo_newNodes) (mo_newPairs := mo_newPairs) (mo_due := mo_due) (mo_newOne := mo_newOne) (mo_newFrom := mo_newFrom) (mo_newTo := mo_newTo) (mo_marks := mo_marks) (mo_drawing := mo_drawing) (mo_leftOf := mo_leftOf) (mo_wayMany := mo_wayMany) (mo_wayAt := mo_wayAt) (mo_bitsNow := mo_bitsNow) (mo_passages := mo_passages) (mo_astray := mo_astray) (mo_loops := mo_loops) (mo_steps := mo_steps) (mo_reached := mo_reached) (mo_others := mo_others) (mo_h := mo_h) x2 (o_mo_leftOf := mo_leftOf_2) h1) (cwV 1 hts gX6_layWay_X6_layLeft rfl rfl rfl (by decide +kernel) ⟨Nat.le_of_ble_eq_true rfl, Nat.le_of_ble_eq_true rfl⟩) (ci := 6) rfl rfl rfl hl.1 rfl (Nat.le_of_ble_eq_true rfl) dX6_layWay_2 ⟨Nat.zero_le _, Nat.zero_le _⟩) (fun H locs hP hD hS => ?_)
  refine lv_aload_n hx hb dX6_layWay_5 rfl (lv_at hl 0 rfl) ?_
  refine lv_iconst (v := (0 : Int32)) hx hb dX6_layWay_6 (by decide) ?_
  refine va_put (ci := 6) (v := .int (0 : Int32)) (ty := .int) (C := RX6) (T := TX6) (N := 34) hx hb hts hin_X6 tyX6 tyX6_ok nmX6 hown hK hP hD hS 0 rfl rfl 24 (by decide) fl_134 (fun _ h9 => h9) rfl (by decide +kernel) rfl rfl (Nat.le_of_ble_eq_true rfl) dX6_layWay_7 (fun H locs hP hD hS => ?_)
  have hP : va_P D vwCl (wdM cI cJ ad mo_pageLength mo_page mo_nodes mo_links mo_fromOf mo_toOf mo_width mo_drawn mo_seed mo_bundleOf mo_netsRead mo_sent mo_passagesEver mo_astrayEver mo_loopsEver mo_newNodes mo_newPairs mo_due mo_newOne mo_newFrom mo_newTo mo_marks mo_drawing mo_leftOf_2 (0 : Int32) mo_wayAt mo_bitsNow mo_passages mo_astray mo_loops mo_steps mo_reached mo_others mo_h) H := hP
  have hD : va_D A (wdM cI cJ ad mo_pageLength mo_page mo_nodes mo_links mo_fromOf mo_toOf mo_width mo_drawn mo_seed mo_bundleOf mo_netsRead mo_sent mo_passagesEver mo_astrayEver mo_loopsEver mo_newNodes mo_newPairs mo_due mo_newOne mo_newFrom mo_newTo mo_marks mo_drawing mo_leftOf_2 (0 : Int32) mo_wayAt mo_bitsNow mo_passages mo_astray mo_loops mo_steps mo_reached mo_others mo_h) := hD
  refine lv_iload_n hx hb dX6_layWay_10 rfl (lv_at hl 1 rfl) ?_
  refine lv_istore_n (lv' := [(3, .int x1), (0, .ref (ad 15)), (1, .int x1), (2, .int x2)]) hx hb dX6_layWay_11 rfl hl (by decide) rfl (fun ls hl => ?_)
  refine lv_aload_n hx hb dX6_layWay_12 rfl (lv_at hl 1 rfl) ?_
  refine va_get (ci := 6) (v := .ref (ad 23)) (C := RX6) (T := TX6) (N := 34) hx hb hts hin_X6 hown hK hP 0 rfl rfl 23 (by decide) fl_42 (fun _ h9 => h9) rfl dX6_layWay_13 ?_
  refine lv_iload_n hx hb dX6_layWay_16 rfl (lv_at hl 2 rfl) ?_
  obtain ⟨g4, hf⟩ := oo_g hf
  refine va_iald hx hb hK hP 8 0 rfl rfl g4 dX6_layWay_17 ?_
  refine lv_bipush (v := (6 : Int32)) hx hb dX6_layWay_18 (by decide) ?_
  have kj6 : ∀ (k_5 : Int32), k_5 = (if (6 : Int32) ≤ (mo_leftOf_2 (x1).toNatClampNeg) then (0 : Int32) else (1 : Int32)) → ∀ (H : Heap) (locs : List Loc) (ls : Array Slot), va_P D vwCl (wdM cI cJ ad mo_pageLength mo_page mo_nodes mo_links mo_fromOf mo_toOf mo_width mo_drawn mo_seed mo_bundleOf mo_netsRead mo_sent mo_passagesEver mo_astrayEver mo_loopsEver mo_newNodes mo_newPairs mo_due mo_newOne mo_newFrom mo_newTo mo_marks mo_drawing mo_leftOf_2 (0 : Int32) mo_wayAt mo_bitsNow mo_passages mo_astray mo_loops mo_steps mo_reached mo_others mo_h) H → va_D A (wdM cI cJ ad mo_pageLength mo_page mo_nodes mo_links mo_fromOf mo_toOf mo_width mo_drawn mo_seed mo_bundleOf mo_netsRead mo_sent mo_passagesEver mo_astrayEver mo_loopsEver mo_newNodes mo_newPairs mo_due mo_newOne mo_newFrom mo_newTo mo_marks mo_drawing mo_leftOf_2 (0 : Int32) mo_wayAt mo_bitsNow mo_passages mo_astray mo_loops mo_steps mo_reached mo_others mo_h) → va_S A s.heap H locs → lv_has ls 5 [(0, .ref (ad 15)), (2, .int x2), (3, .int x1)] → W p l e rm_X6_layWay s m args below meth c H locs 0 0 Q (F0 m 28 ls [.int k_5]) := by
    intro k_5 ek_5
    subst ek_5
    intro H locs ls hP hD hS hl
    refine lv_istore (lv' := [(4, .int (if (6 : Int32) ≤ (mo_leftOf_2 (x1).toNatClampNeg) then (0 : Int32) else (1 : Int32))), (0, .ref (ad 15)), (2, .int x2), (3, .int x1)]) hx hb dX6_layWay_28 hl (by decide) rfl (fun ls hl => ?_)
    have lp9 : ∀ (n : Nat) (mo_wayMany_a30 : Int32) (mo_wayAt_a30 : Nat → Int32) (x3_a30 : Int32) (x4_a30 : Int32) (mo_wayMany_o7 : Int32) (mo_wayAt_o8 : Nat → Int32), f_X6_layWay_L30 mo_links mo_fromOf mo_toOf mo_leftOf_2 x2 n mo_wayMany_a30 mo_wayAt_a30 x3_a30 x4_a30 = some (mo_wayMany_o7, mo_wayAt_o8) → (∀ (H : Heap) (locs : List Loc) (ls : Array Slot), va_P D vwCl (wdM cI cJ ad mo_pageLength mo_page mo_nodes mo_links mo_fromOf mo_toOf mo_width mo_drawn mo_seed mo_bundleOf mo_netsRead mo_sent mo_passagesEver mo_astrayEver mo_loopsEver mo_newNodes mo_newPairs mo_due mo_newOne mo_newFrom mo_newTo mo_marks mo_drawing mo_leftOf_2 mo_wayMany_o7 mo_wayAt_o8 mo_bitsNow mo_passages mo_astray mo_loops mo_steps mo_reached mo_others mo_h) H → va_D A (wdM cI cJ ad mo_pageLength mo_page mo_nodes mo_links mo_fromOf mo_toOf mo_width mo_drawn mo_seed mo_bundleOf mo_netsRead mo_sent mo_passagesEver mo_astrayEver mo_loopsEver mo_newNodes mo_newPairs mo_due mo_newOne mo_newFrom mo_newTo mo_marks mo_drawing mo_leftOf_2 mo_wayMany_o7 mo_wayAt_o8 mo_bitsNow mo_passages mo_astray mo_loops mo_steps mo_reached mo_others mo_h) → va_S A s.heap H locs → lv_has ls 5 [] → W p l e rm_X6_layWay s m args below meth c H locs 0 0 Q (F0 m 85 ls [])) → ∀ (H : Heap) (locs : List Loc) (ls : Array Slot), va_P D vwCl (wdM cI cJ ad mo_pageLength mo_page mo_nodes mo_links mo_fromOf mo_toOf mo_width mo_drawn mo_seed mo_bundleOf mo_netsRead mo_sent mo_passagesEver mo_astrayEver mo_loopsEver mo_newNodes mo_newPairs mo_due mo_newOne mo_newFrom mo_newTo mo_marks mo_drawing mo_leftOf_2 mo_wayMany_a30 mo_wayAt_a30 mo_bitsNow mo_passages mo_astray mo_loops mo_steps mo_reached mo_others mo_h) H → va_D A (wdM cI cJ ad mo_pageLength mo_page mo_nodes mo_links mo_fromOf mo_toOf mo_width mo_drawn mo_seed mo_bundleOf mo_netsRead mo_sent mo_passagesEver mo_astrayEver mo_loopsEver mo_newNodes mo_newPairs mo_due mo_newOne mo_newFrom mo_newTo mo_marks mo_drawing mo_leftOf_2 mo_wayMany_a30 mo_wayAt_a30 mo_bitsNow mo_passages mo_astray mo_loops mo_steps mo_reached mo_others mo_h) → va_S A s.heap H locs → lv_has ls 5 [(0, .ref (ad 15)), (2, .int x2), (3, .int x3_a30), (4, .int x4_a30)] → W p l e rm_X6_layWay s m args below meth c H locs 0 0 Q (F0 m 30 ls []) := by
      intro n
      induction n with
      | zero =>
        intro mo_wayMany_a30 mo_wayAt_a30 x3_a30 x4_a30 mo_wayMany_o7 mo_wayAt_o8 h0
        exact oo_n h0
      | succ n ih =>
        intro mo_wayMany_a30 mo_wayAt_a30 x3_a30 x4_a30 mo_wayMany_o7 mo_wayAt_o8 hf kk H locs ls hP hD hS hl
        rw [f_X6_layWay_L30_s] at hf
        refine lv_iload hx hb dX6_layWay_30 (lv_at hl 3 rfl) ?_
        refine lv_if_eq (tgt := 85) hx hb dX6_layWay_32 (by decide) (fun c10 => ?_) (fun c10 => ?_)
        · have hf := oo_t hf c10
          cases hf
          exact kk _ _ _ hP hD hS (lv_sub hl [] rfl)
        · have hf := oo_f hf c10
          refine lv_aload_n hx hb dX6_layWay_35 rfl (lv_at hl 0 rfl) ?_
          refine va_get (ci := 6) (v := .ref (ad 24)) (C := RX6) (T := TX6) (N := 34) hx hb hts hin_X6 hown hK hP 0 rfl rfl 25 (by decide) fl_45 (fun _ h9 => h9) rfl dX6_layWay_36 ?_
          refine lv_aload_n hx hb dX6_layWay_39 rfl (lv_at hl 0 rfl) ?_
          refine va_get (ci := 6) (v := .int mo_wayMany_a30) (C := RX6) (T := TX6) (N := 34) hx hb hts hin_X6 hown hK hP 0 rfl rfl 24 (by decide) fl_134 (fun _ h9 => h9) rfl dX6_layWay_40 ?_
          refine lv_iload_n hx hb dX6_layWay_43 rfl (lv_at hl 2 rfl) ?_
          obtain ⟨g11, hf⟩ := oo_g hf
          refine va_iast hx hb hK hP hD hS 9 0 rfl rfl g11 dX6_layWay_44 (fun H locs hP hD hS => ?_)
          have hP : va_P D vwCl (wdM cI cJ ad mo_pageLength mo_page mo_nodes mo_links mo_fromOf mo_toOf mo_width mo_drawn mo_seed mo_bundleOf mo_netsRead mo_sent mo_passagesEver mo_astrayEver mo_loopsEver mo_newNodes mo_newPairs mo_due mo_newOne mo_newFrom mo_newTo mo_marks mo_drawing mo_leftOf_2 mo_wayMany_a30 (upd mo_wayAt_a30 (mo_wayMany_a30).toNatClampNeg x3_a30) mo_bitsNow mo_passages mo_astray mo_loops mo_steps mo_reached mo_others mo_h) H := hP
          have hD : va_D A (wdM cI cJ ad mo_pageLength mo_page mo_nodes mo_links mo_fromOf mo_toOf mo_width mo_drawn mo_seed mo_bundleOf mo_netsRead mo_sent mo_passagesEver mo_astrayEver mo_loopsEver mo_newNodes mo_newPairs mo_due mo_newOne mo_newFrom mo_newTo mo_marks mo_drawing mo_leftOf_2 mo_wayMany_a30 (upd mo_wayAt_a30 (mo_wayMany_a30).toNatClampNeg x3_a30) mo_bitsNow mo_passages mo_astray mo_loops mo_steps mo_reached mo_others mo_h) := hD
          refine lv_aload_n hx hb dX6_layWay_45 rfl (lv_at hl 0 rfl) ?_
          refine lv_dup hx hb dX6_layWay_46 rfl ?_
          refine va_get (ci := 6) (v := .int mo_wayMany_a30) (C := RX6) (T := TX6) (N := 34) hx hb hts hin_X6 hown hK hP 0 rfl rfl 24 (by decide) fl_134 (fun _ h9 => h9) rfl dX6_layWay_47 ?_
          refine lv_iconst (v := (1 : Int32)) hx hb dX6_layWay_50 (by decide) ?_
          refine lv_iadd hx hb dX6_layWay_51 ?_
          refine va_put (ci := 6) (v := .int (mo_wayMany_a30 + (1 : Int32))) (ty := .int) (C := RX6) (T := TX6) (N := 34) hx hb hts hin_X6 tyX6 tyX6_ok nmX6 hown hK hP hD hS 0 rfl rfl 24 (by decide) fl_134 (fun _ h9 => h9) rfl (by decide +kernel) rfl rfl (Nat.le_of_ble_eq_true rfl) dX6_layWay_52 (fun H locs hP hD hS => ?_)
          have hP : va_P D vwCl (wdM cI cJ ad mo_pageLength mo_page mo_nodes mo_links mo_fromOf mo_toOf mo_width mo_drawn mo_seed mo_bundleOf mo_netsRead mo_sent mo_passagesEver mo_astrayEver mo_loopsEver mo_newNodes mo_newPairs mo_due mo_newOne mo_newFrom mo_newTo mo_marks mo_drawing mo_leftOf_2 (mo_wayMany_a30 + (1 : Int32)) (upd mo_wayAt_a30 (mo_wayMany_a30).toNatClampNeg x3_a30) mo_bitsNow mo_passages mo_astray mo_loops mo_steps mo_reached mo_others mo_h) H := hP
          have hD : va_D A (wdM cI cJ ad mo_pageLength mo_page mo_nodes mo_links mo_fromOf mo_toOf mo_width mo_drawn mo_seed mo_bundleOf mo_netsRead mo_sent mo_passagesEver mo_astrayEver mo_loopsEver mo_newNodes mo_newPairs mo_due mo_newOne mo_newFrom mo_newTo mo_marks mo_drawing mo_leftOf_2 (mo_wayMany_a30 + (1 : Int32)) (upd mo_wayAt_a30 (mo_wayMany_a30).toNatClampNeg x3_a30) mo_bitsNow mo_passages mo_astray mo_loops mo_steps mo_reached mo_others mo_h) := hD
          refine lv_iload_n hx hb dX6_layWay_55 rfl (lv_at hl 2 rfl) ?_
          refine lv_iload_n hx hb dX6_layWay_56 rfl (lv_at hl 1 rfl) ?_
          have kj13 : ∀ (k_12 : Int32), k_12 = (if x3_a30 = x2 then (0 : Int32) else (1 : Int32)) → ∀ (H : Heap) (locs : List Loc) (ls : Array Slot), va_P D vwCl (wdM cI cJ ad mo_pageLength mo_page mo_nodes mo_links mo_fromOf mo_toOf mo_width mo_drawn mo_seed mo_bundleOf mo_netsRead mo_sent mo_passagesEver mo_astrayEver mo_loopsEver mo_newNodes mo_newPairs mo_due mo_newOne mo_newFrom mo_newTo mo_marks mo_drawing mo_leftOf_2 (mo_wayMany_a30 + (1 : Int32)) (upd mo_wayAt_a30 (mo_wayMany_a30).toNatClampNeg x3_a30) mo_bitsNow mo_passages mo_astray mo_loops mo_steps mo_reached mo_others mo_h) H → va_D A (wdM cI cJ ad mo_pageLength mo_page mo_nodes mo_links mo_fromOf mo_toOf mo_width mo_drawn mo_seed mo_bundleOf mo_netsRead mo_sent mo_passagesEver mo_astrayEver mo_loopsEver mo_newNodes mo_newPairs mo_due mo_newOne mo_newFrom mo_newTo mo_marks mo_drawing mo_leftOf_2 (mo_wayMany_a30 + (1 : Int32)) (upd mo_wayAt_a30 (mo_wayMany_a30).toNatClampNeg x3_a30) mo_bitsNow mo_passages mo_astray mo_loops mo_steps mo_reached mo_others mo_h) → va_S A s.heap H locs → lv_has ls 5 [(0, .ref (ad 15)), (2, .int x2), (3, .int x3_a30)] → W p l e rm_X6_layWay s m args below meth c H locs 0 0 Q (F0 m 65 ls [.int k_12]) := by
            intro k_12 ek_12
            subst ek_12
            intro H locs ls hP hD hS hl
            refine lv_istore (lv' := [(4, .int (if x3_a30 = x2 then (0 : Int32) else (1 : Int32))), (0, .ref (ad 15)), (2, .int x2), (3, .int x3_a30)]) hx hb dX6_layWay_65 hl (by decide) rfl (fun ls hl => ?_)
            refine lv_iload hx hb dX6_layWay_67 (lv_at hl 0 rfl) ?_
            obtain ⟨k_14, hj16, hf⟩ := oo_b hf
            try dsimp only at hf
            have kj15 : ∀ (H : Heap) (locs : List Loc) (ls : Array Slot), va_P D vwCl (wdM cI cJ ad mo_pageLength mo_page mo_nodes mo_links mo_fromOf mo_toOf mo_width mo_drawn mo_seed mo_bundleOf mo_netsRead mo_sent mo_passagesEver mo_astrayEver mo_loopsEver mo_newNodes mo_newPairs mo_due mo_newOne mo_newFrom mo_newTo mo_marks mo_drawing mo_leftOf_2 (mo_wayMany_a30 + (1 : Int32)) (upd mo_wayAt_a30 (mo_wayMany_a30).toNatClampNeg x3_a30) mo_bitsNow mo_passages mo_astray mo_loops mo_steps mo_reached mo_others mo_h) H → va_D A (wdM cI cJ ad mo_pageLength mo_page mo_nodes mo_links mo_fromOf mo_toOf mo_width mo_drawn mo_seed mo_bundleOf mo_netsRead mo_sent mo_passagesEver mo_astrayEver mo_loopsEver mo_newNodes mo_newPairs mo_due mo_newOne mo_newFrom mo_newTo mo_marks mo_drawing mo_leftOf_2 (mo_wayMany_a30 + (1 : Int32)) (upd mo_wayAt_a30 (mo_wayMany_a30).toNatClampNeg x3_a30) mo_bitsNow mo_passages mo_astray mo_loops mo_steps mo_reached mo_others mo_h) → va_S A s.heap H locs → lv_has ls 5 [(0, .ref (ad 15)), (2, .int x2), (4, .int (if x3_a30 = x2 then (0 : Int32) else (1 : Int32)))] → W p l e rm_X6_layWay s m args below meth c H locs 0 0 Q (F0 m 81 ls [.int k_14]) := by
              intro H locs ls hP hD hS hl
              refine lv_istore_n (lv' := [(3, .int k_14), (0, .ref (ad 15)), (2, .int x2), (4, .int (if x3_a30 = x2 then (0 : Int32) else (1 : Int32)))]) hx hb dX6_layWay_81 rfl hl (by decide) rfl (fun ls hl => ?_)
              refine lv_goto (tgt := 30) hx hb dX6_layWay_82 (by decide) ?_
              exact ih (mo_wayMany_a30 + (1 : Int32)) (upd mo_wayAt_a30 (mo_wayMany_a30).toNatClampNeg x3_a30) k_14 (if x3_a30 = x2 then (0 : Int32) else (1 : Int32)) _ _ hf kk _ _ _ hP hD hS (lv_sub hl [1, 2, 0, 3] rfl)
            clear hf
            have hf := hj16
            clear hj16
            refine lv_if_eq (tgt := 80) hx hb dX6_layWay_69 (by decide) (fun c17 => ?_) (fun c17 => ?_)
            · have hf := oo_t hf c17
              refine lv_iload_n hx hb dX6_layWay_80 rfl (lv_at hl 3 rfl) ?_
              cases hf
              exact kj15 _ _ _ hP hD hS (lv_sub hl [1, 2, 0] rfl)
            · have hf := oo_f hf c17
              refine lv_aload_n hx hb dX6_layWay_72 rfl (lv_at hl 1 rfl) ?_
              refine lv_iload_n hx hb dX6_layWay_73 rfl (lv_at hl 3 rfl) ?_
              obtain ⟨r19, h18, hf⟩ := oo_b hf
              try dsimp only at hf
              have F : Fr D A _ (wdM cI cJ ad mo_pageLength mo_page mo_nodes mo_links mo_fromOf mo_toOf mo_width mo_drawn mo_seed mo_bundleOf mo_netsRead mo_sent mo_passagesEver mo_astrayEver mo_loopsEver mo_newNodes mo_newPairs mo_due mo_newOne mo_newFrom mo_newTo mo_marks mo_drawing mo_leftOf_2 (mo_wayMany_a30 + (1 : Int32)) (upd mo_wayAt_a30 (mo_wayMany_a30).toNatClampNeg x3_a30) mo_bitsNow mo_passages mo_astray mo_loops mo_steps mo_reached mo_others mo_h) (wdM cI cJ ad mo_pageLength mo_page mo_nodes mo_links mo_fromOf mo_toOf mo_width mo_drawn mo_seed mo_bundleOf mo_netsRead mo_sent mo_passagesEver mo_astrayEver mo_loopsEver mo_newNodes mo_newPairs mo_due mo_newOne mo_newFrom mo_newTo mo_marks mo_drawing mo_leftOf_2 (mo_wayMany_a30 + (1 : Int32)) (upd mo_wayAt_a30 (mo_wayMany_a30).toNatClampNeg x3_a30) mo_bitsNow mo_passages mo_astray mo_loops mo_steps mo_reached mo_others mo_h) (wdM cI cJ ad mo_pageLength mo_page mo_nodes mo_links mo_fromOf mo_toOf mo_width mo_drawn mo_seed mo_bundleOf mo_netsRead mo_sent mo_passagesEver mo_astrayEver mo_loopsEver mo_newNodes mo_newPairs mo_due mo_newOne mo_newFrom mo_newTo mo_marks mo_drawing mo_leftOf_2 (mo_wayMany_a30 + (1 : Int32)) (upd mo_wayAt_a30 (mo_wayMany_a30).toNatClampNeg x3_a30) mo_bitsNow mo_passages mo_astray mo_loops mo_steps mo_reached mo_others mo_h) := fr_self hP hD hS hA
              refine kI F hS (rV (q := (RX6, TX6, 34)) (As := [.int x3_a30]) (rest := []) ⟨hx, hb, hml, hown, hts⟩ hK hN F (c_X6_nextNode l D cI cJ ad _ (mo_pageLength := mo_pageLength) (mo_page := mo_page) (mo_nodes := mo_nodes) (mo_links := mo_links) (mo_fromOf := mo_fromOf) (mo_toOf := mo_toOf) (mo_width := mo_width) (mo_drawn := mo_drawn) (mo_seed := mo_seed) (mo_bundleOf := mo_bundleOf) (mo_netsRead := mo_netsRead) (mo_sent := mo_sent) (mo_passagesEver := mo_passagesEver) (mo_astrayEver := mo_astrayEver) (mo_loopsEver := mo_loopsEver) (mo_newNodes := mo_newNodes) (mo_newPairs := mo_newPairs) (mo_due := mo_due) (mo_newOne := mo_newOne) (mo_newFrom := mo_newFrom) (mo_newTo := mo_newTo) (mo_marks := mo_marks) (mo_drawing := mo_drawing) (mo_leftOf := mo_leftOf_2) (mo_wayMany := (mo_wayMany_a30 + (1 : Int32))) (mo_wayAt := (upd mo_wayAt_a30 (mo_wayMany_a30).toNatClampNeg x3_a30)) (mo_bitsNow := mo_bitsNow) (mo_passages := mo_passages) (mo_astray := mo_astray) (mo_loops := mo_loops) (mo_steps := mo_steps) (mo_reached := mo_reached) (mo_others := mo_others) (mo_h := mo_h) x3_a30 (o_res := r19) h18) (cwV 1 hts gX6_layWay_X6_nextNode rfl rfl rfl (by decide +kernel) ⟨Nat.le_of_ble_eq_true rfl, Nat.le_of_ble_eq_true rfl⟩) (ci := 6) rfl rfl rfl hl.1 rfl (Nat.le_of_ble_eq_true rfl) dX6_layWay_74 ⟨Nat.zero_le _, Nat.zero_le _⟩) (fun H locs hP hD hS => ?_)
              refine lv_goto (tgt := 81) hx hb dX6_layWay_77 (by decide) ?_
              cases hf
              exact kj15 _ _ _ hP hD hS (lv_sub hl [1, 2, 0] rfl)
          refine lv_icmp_eq (tgt := 64) hx hb dX6_layWay_57 (by decide) (fun c21 => ?_) (fun c21 => ?_)
          · refine lv_iconst (v := (0 : Int32)) hx hb dX6_layWay_64 (by decide) ?_
            exact kj13 (0 : Int32) (if_pos c21).symm _ _ _ hP hD hS (lv_sub hl [0, 1, 2] rfl)
          · refine lv_iconst (v := (1 : Int32)) hx hb dX6_layWay_60 (by decide) ?_
            refine lv_goto (tgt := 65) hx hb dX6_layWay_61 (by decide) ?_
            exact kj13 (1 : Int32) (if_neg c21).symm _ _ _ hP hD hS (lv_sub hl [0, 1, 2] rfl)
    obtain ⟨⟨mo_wayMany_o7, mo_wayAt_o8⟩, h22, hf⟩ := oo_b hf
    try dsimp only at hf
    refine lp9  100 (0 : Int32) mo_wayAt x1 (if (6 : Int32) ≤ (mo_leftOf_2 (x1).toNatClampNeg) then (0 : Int32) else (1 : Int32)) mo_wayMany_o7 mo_wayAt_o8 h22 (fun H locs ls hP hD hS hl => ?_) _ _ _ hP hD hS (lv_sub hl [1, 2, 3, 0] rfl)
    cases hf
    exact hret _ _ _ _ dX6_layWay_85 hP hD hS
  refine lv_icmp_ge (tgt := 27) hx hb dX6_layWay_20 (by decide) (fun c23 => ?_) (fun c23 => ?_)
  · refine lv_iconst (v := (0 : Int32)) hx hb dX6_layWay_27 (by decide) ?_
    exact kj6 (0 : Int32) (if_pos c23).symm _ _ _ hP hD hS (lv_sub hl [1, 3, 0] rfl)
  · refine lv_iconst (v := (1 : Int32)) hx hb dX6_layWay_23 (by decide) ?_
    refine lv_goto (tgt := 28) hx hb dX6_layWay_24 (by decide) ?_
    exact kj6 (1 : Int32) (if_neg c23).symm _ _ _ hP hD hS (lv_sub hl [1, 3, 0] rfl)
def f_X6_way (mo_nodes : Int32) (mo_links : Int32) (mo_fromOf : Nat → Int32) (mo_toOf : Nat → Int32) (mo_leftOf : Nat → Int32) (mo_wayMany : Int32) (mo_wayAt : Nat → Int32) (x1 : Int32) (x2 : Int32) (x3 : Int32) : Option (Int32 × (Nat → Int32) × Int32 × (Nat → Int32)) :=
  if (f_X6_isNode mo_nodes x1) = (0 : Int32) then
    some ((-1001 : Int32), mo_leftOf, mo_wayMany, mo_wayAt)
  else
    if (f_X6_isNode mo_nodes x2) = (0 : Int32) then
      some ((-1001 : Int32), mo_leftOf, mo_wayMany, mo_wayAt)
    else
      Option.bind (f_X6_layWay mo_nodes mo_links mo_fromOf mo_toOf mo_leftOf mo_wayAt x1 x2) fun (mo_leftOf_6, mo_wayMany_7, mo_wayAt_8) =>
      if (f_X6_within x3 (0 : Int32) (mo_wayMany_7 - (1 : Int32))) = (0 : Int32) then
        some ((-1 : Int32), mo_leftOf_6, mo_wayMany_7, mo_wayAt_8)
      else
        if x3 < 0 ∨ 6 ≤ (x3).toNatClampNeg then none else
        some ((mo_wayAt_8 (x3).toNatClampNeg), mo_leftOf_6, mo_wayMany_7, mo_wayAt_8)
abbrev rm_X6_way : Room := { frames := 2, cells := 0, slots := 0, locals := 48 }
set_option maxHeartbeats 4000000 in
set_option maxRecDepth 100000 in
theorem c_X6_way (l : Launch) (D : va_G) (cI cJ : ClassId) (ad : Nat → Nat) (sz : Nat) {mo_pageLength : Int32} {mo_page : Nat → Int32} {mo_nodes mo_links : Int32} {mo_fromOf mo_toOf : Nat → Int32} {mo_width mo_drawn mo_seed : Int32} {mo_bundleOf : Nat → Int32} {mo_netsRead mo_sent mo_passagesEver mo_astrayEver mo_loopsEver mo_newNodes mo_newPairs mo_due mo_newOne : Int32} {mo_newFrom mo_newTo : Nat → Int32} {mo_marks : Nat → Int64} {mo_drawing : Int64} {mo_leftOf : Nat → Int32} {mo_wayMany : Int32} {mo_wayAt : Nat → Int32} {mo_bitsNow : Int64} {mo_passages mo_astray mo_loops mo_steps mo_reached mo_others : Int32} {mo_h : Int64} (x1 : Int32) (x2 : Int32) (x3 : Int32) {o_res : Int32} {o_mo_leftOf : Nat → Int32} {o_mo_wayMany : Int32} {o_mo_wayAt : Nat → Int32} (hf : f_X6_way mo_nodes mo_links mo_fromOf mo_toOf mo_leftOf mo_wayMany mo_wayAt x1 x2 x3 = some (o_res, o_mo_leftOf, o_mo_wayMany, o_mo_wayAt)) : CtI l yX6_way wsX6_way rm_X6_way D cI cJ [.ref (ad 15), .int x1, .int x2, .int x3] (wdM cI cJ ad mo_pageLength mo_page mo_nodes mo_links mo_fromOf mo_toOf mo_width mo_drawn mo_seed mo_bundleOf mo_netsRead mo_sent mo_passagesEver mo_astrayEver mo_loopsEver mo_newNodes mo_newPairs mo_due mo_newOne mo_newFrom mo_newTo mo_marks mo_drawing mo_leftOf mo_wayMany mo_wayAt mo_bitsNow mo_passages mo_astray mo_loops mo_steps mo_reached mo_others mo_h) sz o_res (wdM cI cJ ad mo_pageLength mo_page mo_nodes mo_links mo_fromOf mo_toOf mo_width mo_drawn mo_seed mo_bundleOf mo_netsRead mo_sent mo_passagesEver mo_astrayEver mo_loopsEver mo_newNodes mo_newPairs mo_due mo_newOne mo_newFrom mo_newTo mo_marks mo_drawing o_mo_leftOf o_mo_wayMany o_mo_wayAt mo_bitsNow mo_passages mo_astray mo_loops mo_steps mo_reached mo_others mo_h) := by
  refine ctI_of (cc := cX6_way) (maxL := 4) (by decide) rfl (Nat.le_of_ble_eq_true rfl) ?_
  intro p e s m below meth c Q A hx hb hml hown hts hK hN hA hret ls hl hP hD hS
  obtain ⟨args, hargs⟩ : ∃ a : Array Value, a = [.ref (ad 15), .int x1, .int x2, .int x3].toArray := ⟨_, rfl⟩
  rw [← hargs] at hts hret ⊢
  have hown : s.vm.findClass RX6 = some m.cls := hown
  have hl : lv_has ls 4 [(0, .ref (ad 15)), (1, .int x1), (2, .int x2), (3, .int x3)] := hl
  have hin_X6 : ∀ w ∈ wsX60, w ∈ wsX6_way := fun _ h => List.mem_cons_of_mem _ (List.mem_append_right _ h)
  have fl_45 : (Cond.fieldLink RX6 45 "FoldedWaysModel" "wayAt" "[I").before args s = true := hat hts 2 rfl
  have fl_134 : (Cond.fieldLink RX6 134 "FoldedWaysModel" "wayMany" "I").before args s = true := hat hts 1 rfl
  unfold f_X6_way at hf
  refine lv_aload_n hx hb dX6_way_0 rfl (lv_at hl 0 rfl) ?_
  refine lv_iload_n hx hb dX6_way_1 rfl (lv_at hl 1 rfl) ?_
  have F : Fr D A _ (wdM cI cJ ad mo_pageLength mo_page mo_nodes mo_links mo_fromOf mo_toOf mo_width mo_drawn mo_seed mo_bundleOf mo_netsRead mo_sent mo_passagesEver mo_astrayEver mo_loopsEver mo_newNodes mo_newPairs mo_due mo_newOne mo_newFrom mo_newTo mo_marks mo_drawing mo_leftOf mo_wayMany mo_wayAt mo_bitsNow mo_passages mo_astray mo_loops mo_steps mo_reached mo_others mo_h) (wdM cI cJ ad mo_pageLength mo_page mo_nodes mo_links mo_fromOf mo_toOf mo_width mo_drawn mo_seed mo_bundleOf mo_netsRead mo_sent mo_passagesEver mo_astrayEver mo_loopsEver mo_newNodes mo_newPairs mo_due mo_newOne mo_newFrom mo_newTo mo_marks mo_drawing mo_leftOf mo_wayMany mo_wayAt mo_bitsNow mo_passages mo_astray mo_loops mo_steps mo_reached mo_others mo_h) (wdM cI cJ ad mo_pageLength mo_page mo_nodes mo_links mo_fromOf mo_toOf mo_width mo_drawn mo_seed mo_bundleOf mo_netsRead mo_sent mo_passagesEver mo_astrayEver mo_loopsEver mo_newNodes mo_newPairs mo_due mo_newOne mo_newFrom mo_newTo mo_marks mo_drawing mo_leftOf mo_wayMany mo_wayAt mo_bitsNow mo_passages mo_astray mo_loops mo_steps mo_reached mo_others mo_h) := fr_self hP hD hS hA
  refine kZ F hS (rV (q := (RX6, TX6, 34)) (As := [.int x1]) (rest := []) ⟨hx, hb, hml, hown, hts⟩ hK hN F (c_X6_isNode l D cI cJ ad _ (mo_pageLength := mo_pageLength) (mo_page := mo_page) (mo_nodes := mo_nodes) (mo_links := mo_links) (mo_fromOf := mo_fromOf) (mo_toOf := mo_toOf) (mo_width := mo_width) (mo_drawn := mo_drawn) (mo_seed := mo_seed) (mo_bundleOf := mo_bundleOf) (mo_netsRead := mo_netsRead) (mo_sent := mo_sent) (mo_passagesEver := mo_passagesEver) (mo_astrayEver := mo_astrayEver) (mo_loopsEver := mo_loopsEver) (mo_newNodes := mo_newNodes) (mo_newPairs := mo_newPairs) (mo_due := mo_due) (mo_newOne := mo_newOne) (mo_newFrom := mo_newFrom) (mo_newTo := mo_newTo) (mo_marks := mo_marks) (mo_drawing := mo_drawing) (mo_leftOf := mo_leftOf) (mo_wayMany := mo_wayMany) (mo_wayAt := mo_wayAt) (mo_bitsNow := mo_bitsNow) (mo_passages := mo_passages) (mo_astray := mo_astray) (mo_loops := mo_loops) (mo_steps := mo_steps) (mo_reached := mo_reached) (mo_others := mo_others) (mo_h := mo_h) x1 (o_res := (f_X6_isNode mo_nodes x1)) rfl) (cwV 1 hts gX6_way_X6_isNode rfl rfl rfl (by decide +kernel) ⟨Nat.le_of_ble_eq_true rfl, Nat.le_of_ble_eq_true rfl⟩) (ci := 6) rfl rfl rfl hl.1 rfl (Nat.le_of_ble_eq_true rfl) dX6_way_2 ⟨Nat.zero_le _, Nat.zero_le _⟩) (fun H locs hb1 hP hD hS => ?_)
  refine lv_if_eq (tgt := 16) hx hb dX6_way_5 (by decide) (fun c2 => ?_) (fun c2 => ?_)
  · have hf := oo_t hf c2
    refine lv_sipush (v := (-1001 : Int32)) hx hb dX6_way_16 (by decide) ?_
    cases hf
    exact hret _ _ _ _ dX6_way_19 hP hD hS
  · have hf := oo_f hf c2
    refine lv_aload_n hx hb dX6_way_8 rfl (lv_at hl 0 rfl) ?_
    refine lv_iload_n hx hb dX6_way_9 rfl (lv_at hl 2 rfl) ?_
    have F : Fr D A _ (wdM cI cJ ad mo_pageLength mo_page mo_nodes mo_links mo_fromOf mo_toOf mo_width mo_drawn mo_seed mo_bundleOf mo_netsRead mo_sent mo_passagesEver mo_astrayEver mo_loopsEver mo_newNodes mo_newPairs mo_due mo_newOne mo_newFrom mo_newTo mo_marks mo_drawing mo_leftOf mo_wayMany mo_wayAt mo_bitsNow mo_passages mo_astray mo_loops mo_steps mo_reached mo_others mo_h) (wdM cI cJ ad mo_pageLength mo_page mo_nodes mo_links mo_fromOf mo_toOf mo_width mo_drawn mo_seed mo_bundleOf mo_netsRead mo_sent mo_passagesEver mo_astrayEver mo_loopsEver mo_newNodes mo_newPairs mo_due mo_newOne mo_newFrom mo_newTo mo_marks mo_drawing mo_leftOf mo_wayMany mo_wayAt mo_bitsNow mo_passages mo_astray mo_loops mo_steps mo_reached mo_others mo_h) (wdM cI cJ ad mo_pageLength mo_page mo_nodes mo_links mo_fromOf mo_toOf mo_width mo_drawn mo_seed mo_bundleOf mo_netsRead mo_sent mo_passagesEver mo_astrayEver mo_loopsEver mo_newNodes mo_newPairs mo_due mo_newOne mo_newFrom mo_newTo mo_marks mo_drawing mo_leftOf mo_wayMany mo_wayAt mo_bitsNow mo_passages mo_astray mo_loops mo_steps mo_reached mo_others mo_h) := fr_self hP hD hS hA
    refine kZ F hS (rV (q := (RX6, TX6, 34)) (As := [.int x2]) (rest := []) ⟨hx, hb, hml, hown, hts⟩ hK hN F (c_X6_isNode l D cI cJ ad _ (mo_pageLength := mo_pageLength) (mo_page := mo_page) (mo_nodes := mo_nodes) (mo_links := mo_links) (mo_fromOf := mo_fromOf) (mo_toOf := mo_toOf) (mo_width := mo_width) (mo_drawn := mo_drawn) (mo_seed := mo_seed) (mo_bundleOf := mo_bundleOf) (mo_netsRead := mo_netsRead) (mo_sent := mo_sent) (mo_passagesEver := mo_passagesEver) (mo_astrayEver := mo_astrayEver) (mo_loopsEver := mo_loopsEver) (mo_newNodes := mo_newNodes) (mo_newPairs := mo_newPairs) (mo_due := mo_due) (mo_newOne := mo_newOne) (mo_newFrom := mo_newFrom) (mo_newTo := mo_newTo) (mo_marks := mo_marks) (mo_drawing := mo_drawing) (mo_leftOf := mo_leftOf) (mo_wayMany := mo_wayMany) (mo_wayAt := mo_wayAt) (mo_bitsNow := mo_bitsNow) (mo_passages := mo_passages) (mo_astray := mo_astray) (mo_loops := mo_loops) (mo_steps := mo_steps) (mo_reached := mo_reached) (mo_others := mo_others) (mo_h := mo_h) x2 (o_res := (f_X6_isNode mo_nodes x2)) rfl) (cwV 1 hts gX6_way_X6_isNode rfl rfl rfl (by decide +kernel) ⟨Nat.le_of_ble_eq_true rfl, Nat.le_of_ble_eq_true rfl⟩) (ci := 6) rfl rfl rfl hl.1 rfl (Nat.le_of_ble_eq_true rfl) dX6_way_10 ⟨Nat.zero_le _, Nat.zero_le _⟩) (fun H locs hb3 hP hD hS => ?_)
    refine lv_if_ne (tgt := 20) hx hb dX6_way_13 (by decide) (fun c4 => ?_) (fun c4 => ?_)
    · have hf := oo_f hf c4
      refine lv_aload_n hx hb dX6_way_20 rfl (lv_at hl 0 rfl) ?_
      refine lv_iload_n hx hb dX6_way_21 rfl (lv_at hl 1 rfl) ?_
      refine lv_iload_n hx hb dX6_way_22 rfl (lv_at hl 2 rfl) ?_
      obtain ⟨⟨mo_leftOf_6, mo_wayMany_7, mo_wayAt_8⟩, h5, hf⟩ := oo_b hf
      try dsimp only at hf
      have F : Fr D A _ (wdM cI cJ ad mo_pageLength mo_page mo_nodes mo_links mo_fromOf mo_toOf mo_width mo_drawn mo_seed mo_bundleOf mo_netsRead mo_sent mo_passagesEver mo_astrayEver mo_loopsEver mo_newNodes mo_newPairs mo_due mo_newOne mo_newFrom mo_newTo mo_marks mo_drawing mo_leftOf mo_wayMany mo_wayAt mo_bitsNow mo_passages mo_astray mo_loops mo_steps mo_reached mo_others mo_h) (wdM cI cJ ad mo_pageLength mo_page mo_nodes mo_links mo_fromOf mo_toOf mo_width mo_drawn mo_seed mo_bundleOf mo_netsRead mo_sent mo_passagesEver mo_astrayEver mo_loopsEver mo_newNodes mo_newPairs mo_due mo_newOne mo_newFrom mo_newTo mo_marks mo_drawing mo_leftOf_6 mo_wayMany_7 mo_wayAt_8 mo_bitsNow mo_passages mo_astray mo_loops mo_steps mo_reached mo_others mo_h) (wdM cI cJ ad mo_pageLength mo_page mo_nodes mo_links mo_fromOf mo_toOf mo_width mo_drawn mo_seed mo_bundleOf mo_netsRead mo_sent mo_passagesEver mo_astrayEver mo_loopsEver mo_newNodes mo_newPairs mo_due mo_newOne mo_newFrom mo_newTo mo_marks mo_drawing mo_leftOf_6 mo_wayMany_7 mo_wayAt_8 mo_bitsNow mo_passages mo_astray mo_loops mo_steps mo_reached mo_others mo_h) := fr_self hP hD hS hA
      refine kV F hS (rV (q := (RX6, TX6, 34)) (As := [.int x1, .int x2]) (rest := []) ⟨hx, hb, hml, hown, hts⟩ hK hN F (c_X6_layWay l D cI cJ ad _ (mo_pageLength := mo_pageLength) (mo_page := mo_page) (mo_nodes := mo_nodes) (mo_links := mo_links) (mo_fromOf := mo_fromOf) (mo_toOf := mo_toOf) (mo_width := mo_width) (mo_drawn := mo_drawn) (mo_seed := mo_seed) (mo_bundleOf := mo_bundleOf) (mo_netsRead := mo_netsRead) (mo_sent := mo_sent) (mo_passagesEver := mo_passagesEver) (mo_astrayEver := mo_astrayEver) (mo_loopsEver := mo_loopsEver) (mo_newNodes := mo_newNodes) (mo_newPairs := mo_newPairs) (mo_due := mo_due) (mo_newOne := mo_newOne) (mo_newFrom := mo_newFrom) (mo_newTo := mo_newTo) (mo_marks := mo_marks) (mo_drawing := mo_drawing) (mo_leftOf := mo_leftOf) (mo_wayMany := mo_wayMany) (mo_wayAt := mo_wayAt) (mo_bitsNow := mo_bitsNow) (mo_passages := mo_passages) (mo_astray := mo_astray) (mo_loops := mo_loops) (mo_steps := mo_steps) (mo_reached := mo_reached) (mo_others := mo_others) (mo_h := mo_h) x1 x2 (o_mo_leftOf := mo_leftOf_6) (o_mo_wayMany := mo_wayMany_7) (o_mo_wayAt := mo_wayAt_8) h5) (cwV 2 hts gX6_way_X6_layWay rfl rfl rfl (by decide +kernel) ⟨Nat.le_of_ble_eq_true rfl, Nat.le_of_ble_eq_true rfl⟩) (ci := 6) rfl rfl rfl hl.1 rfl (Nat.le_of_ble_eq_true rfl) dX6_way_23 ⟨Nat.zero_le _, Nat.zero_le _⟩) (fun H locs hP hD hS => ?_)
      refine lv_iload_n hx hb dX6_way_26 rfl (lv_at hl 3 rfl) ?_
      refine lv_iconst (v := (0 : Int32)) hx hb dX6_way_27 (by decide) ?_
      refine lv_aload_n hx hb dX6_way_28 rfl (lv_at hl 0 rfl) ?_
      refine va_get (ci := 6) (v := .int mo_wayMany_7) (C := RX6) (T := TX6) (N := 34) hx hb hts hin_X6 hown hK hP 0 rfl rfl 24 (by decide) fl_134 (fun _ h9 => h9) rfl dX6_way_29 ?_
      refine lv_iconst (v := (1 : Int32)) hx hb dX6_way_32 (by decide) ?_
      refine lv_isub hx hb dX6_way_33 ?_
      have F : Fr D A _ [] [] (wdM cI cJ ad mo_pageLength mo_page mo_nodes mo_links mo_fromOf mo_toOf mo_width mo_drawn mo_seed mo_bundleOf mo_netsRead mo_sent mo_passagesEver mo_astrayEver mo_loopsEver mo_newNodes mo_newPairs mo_due mo_newOne mo_newFrom mo_newTo mo_marks mo_drawing mo_leftOf_6 mo_wayMany_7 mo_wayAt_8 mo_bitsNow mo_passages mo_astray mo_loops mo_steps mo_reached mo_others mo_h) := fr_nil hP hD hS hA
      refine kZ F hS (rS (As := [.int x3, .int (0 : Int32), .int (mo_wayMany_7 - (1 : Int32))]) (rest := []) ⟨hx, hb, hml, hown, hts⟩ hK hN F (c_X6_within l D cI cJ ad _  x3 (0 : Int32) (mo_wayMany_7 - (1 : Int32)) (o_res := (f_X6_within x3 (0 : Int32) (mo_wayMany_7 - (1 : Int32)))) rfl) (cwS 3 hts gX6_way_X6_within rfl rfl rfl (by decide +kernel) ⟨Nat.le_of_ble_eq_true rfl, Nat.le_of_ble_eq_true rfl⟩) rfl hl.1 rfl (Nat.le_of_ble_eq_true rfl) dX6_way_34 ⟨Nat.zero_le _, Nat.zero_le _⟩) (fun H locs hb10 hP hD hS => ?_)
      refine lv_if_eq (tgt := 49) hx hb dX6_way_37 (by decide) (fun c11 => ?_) (fun c11 => ?_)
      · have hf := oo_t hf c11
        refine lv_iconst (v := (-1 : Int32)) hx hb dX6_way_49 (by decide) ?_
        cases hf
        exact hret _ _ _ _ dX6_way_50 hP hD hS
      · have hf := oo_f hf c11
        refine lv_aload_n hx hb dX6_way_40 rfl (lv_at hl 0 rfl) ?_
        refine va_get (ci := 6) (v := .ref (ad 24)) (C := RX6) (T := TX6) (N := 34) hx hb hts hin_X6 hown hK hP 0 rfl rfl 25 (by decide) fl_45 (fun _ h9 => h9) rfl dX6_way_41 ?_
        refine lv_iload_n hx hb dX6_way_44 rfl (lv_at hl 3 rfl) ?_
        obtain ⟨g12, hf⟩ := oo_g hf
        refine va_iald hx hb hK hP 9 0 rfl rfl g12 dX6_way_45 ?_
        refine lv_goto (tgt := 50) hx hb dX6_way_46 (by decide) ?_
        cases hf
        exact hret _ _ _ _ dX6_way_50 hP hD hS
    · have hf := oo_t hf c4
      refine lv_sipush (v := (-1001 : Int32)) hx hb dX6_way_16 (by decide) ?_
      cases hf
      exact hret _ _ _ _ dX6_way_19 hP hD hS
def f_X6_linkFrom_L5 (mo_links : Int32) (mo_fromOf : Nat → Int32) (mo_toOf : Nat → Int32) (x1 : Int32) (x2 : Int32) : Nat → Int32 → Int32 → Option (Int32)
  | 0, _, _ => none
  | n + 1, x3_a5, x4_a5 =>
      if mo_links ≤ x4_a5 then
        some x3_a5
      else
        if x4_a5 < 0 ∨ 16 ≤ (x4_a5).toNatClampNeg then none else
        f_X6_linkFrom_L5 mo_links mo_fromOf mo_toOf x1 x2 n (if (mo_fromOf (x4_a5).toNatClampNeg) = x1 then (if (mo_toOf (x4_a5).toNatClampNeg) = x2 then x4_a5 else x3_a5) else x3_a5) (x4_a5 + (1 : Int32))
theorem f_X6_linkFrom_L5_s (mo_links : Int32) (mo_fromOf : Nat → Int32) (mo_toOf : Nat → Int32) (x1 : Int32) (x2 : Int32) (n : Nat) (x3_a5 : Int32) (x4_a5 : Int32) : f_X6_linkFrom_L5 mo_links mo_fromOf mo_toOf x1 x2 (n + 1) x3_a5 x4_a5 =
      (if mo_links ≤ x4_a5 then
        some x3_a5
      else
        if x4_a5 < 0 ∨ 16 ≤ (x4_a5).toNatClampNeg then none else
        f_X6_linkFrom_L5 mo_links mo_fromOf mo_toOf x1 x2 n (if (mo_fromOf (x4_a5).toNatClampNeg) = x1 then (if (mo_toOf (x4_a5).toNatClampNeg) = x2 then x4_a5 else x3_a5) else x3_a5) (x4_a5 + (1 : Int32))) := rfl
def f_X6_linkFrom (mo_links : Int32) (mo_fromOf : Nat → Int32) (mo_toOf : Nat → Int32) (x1 : Int32) (x2 : Int32) : Option (Int32) :=
  Option.bind (f_X6_linkFrom_L5 mo_links mo_fromOf mo_toOf x1 x2 100 (-1 : Int32) (0 : Int32)) fun x3_o1 =>
  some x3_o1
abbrev rm_X6_linkFrom : Room := { frames := 0, cells := 0, slots := 0, locals := 0 }
set_option maxHeartbeats 4000000 in
set_option maxRecDepth 100000 in
theorem c_X6_linkFrom (l : Launch) (D : va_G) (cI cJ : ClassId) (ad : Nat → Nat) (sz : Nat) {mo_pageLength : Int32} {mo_page : Nat → Int32} {mo_nodes mo_links : Int32} {mo_fromOf mo_toOf : Nat → Int32} {mo_width mo_drawn mo_seed : Int32} {mo_bundleOf : Nat → Int32} {mo_netsRead mo_sent mo_passagesEver mo_astrayEver mo_loopsEver mo_newNodes mo_newPairs mo_due mo_newOne : Int32} {mo_newFrom mo_newTo : Nat → Int32} {mo_marks : Nat → Int64} {mo_drawing : Int64} {mo_leftOf : Nat → Int32} {mo_wayMany : Int32} {mo_wayAt : Nat → Int32} {mo_bitsNow : Int64} {mo_passages mo_astray mo_loops mo_steps mo_reached mo_others : Int32} {mo_h : Int64} (x1 : Int32) (x2 : Int32) {o_res : Int32} (hf : f_X6_linkFrom mo_links mo_fromOf mo_toOf x1 x2 = some o_res) : CtI l yX6_linkFrom wsX6_linkFrom rm_X6_linkFrom D cI cJ [.ref (ad 15), .int x1, .int x2] (wdM cI cJ ad mo_pageLength mo_page mo_nodes mo_links mo_fromOf mo_toOf mo_width mo_drawn mo_seed mo_bundleOf mo_netsRead mo_sent mo_passagesEver mo_astrayEver mo_loopsEver mo_newNodes mo_newPairs mo_due mo_newOne mo_newFrom mo_newTo mo_marks mo_drawing mo_leftOf mo_wayMany mo_wayAt mo_bitsNow mo_passages mo_astray mo_loops mo_steps mo_reached mo_others mo_h) sz o_res (wdM cI cJ ad mo_pageLength mo_page mo_nodes mo_links mo_fromOf mo_toOf mo_width mo_drawn mo_seed mo_bundleOf mo_netsRead mo_sent mo_passagesEver mo_astrayEver mo_loopsEver mo_newNodes mo_newPairs mo_due mo_newOne mo_newFrom mo_newTo mo_marks mo_drawing mo_leftOf mo_wayMany mo_wayAt mo_bitsNow mo_passages mo_astray mo_loops mo_steps mo_reached mo_others mo_h) := by
  refine ctI_of (cc := cX6_linkFrom) (maxL := 5) (by decide) rfl (Nat.le_of_ble_eq_true rfl) ?_
  intro p e s m below meth c Q A hx hb hml hown hts hK hN hA hret ls hl hP hD hS
  obtain ⟨args, hargs⟩ : ∃ a : Array Value, a = [.ref (ad 15), .int x1, .int x2].toArray := ⟨_, rfl⟩
  rw [← hargs] at hts hret ⊢
  have hown : s.vm.findClass RX6 = some m.cls := hown
  have hl : lv_has ls 5 [(0, .ref (ad 15)), (1, .int x1), (2, .int x2)] := hl
  have hin_X6 : ∀ w ∈ wsX60, w ∈ wsX6_linkFrom := fun _ h => List.mem_cons_of_mem _ (List.mem_append_right _ h)
  have fl_13 : (Cond.fieldLink RX6 13 "FoldedWaysModel" "fromOf" "[I").before args s = true := hat hts 2 rfl
  have fl_16 : (Cond.fieldLink RX6 16 "FoldedWaysModel" "toOf" "[I").before args s = true := hat hts 3 rfl
  have fl_85 : (Cond.fieldLink RX6 85 "FoldedWaysModel" "links" "I").before args s = true := hat hts 1 rfl
  unfold f_X6_linkFrom at hf
  refine lv_iconst (v := (-1 : Int32)) hx hb dX6_linkFrom_0 (by decide) ?_
  refine lv_istore_n (lv' := [(3, .int (-1 : Int32)), (0, .ref (ad 15)), (1, .int x1), (2, .int x2)]) hx hb dX6_linkFrom_1 rfl hl (by decide) rfl (fun ls hl => ?_)
  refine lv_iconst (v := (0 : Int32)) hx hb dX6_linkFrom_2 (by decide) ?_
  refine lv_istore (lv' := [(4, .int (0 : Int32)), (3, .int (-1 : Int32)), (0, .ref (ad 15)), (1, .int x1), (2, .int x2)]) hx hb dX6_linkFrom_3 hl (by decide) rfl (fun ls hl => ?_)
  have lp2 : ∀ (n : Nat) (x3_a5 : Int32) (x4_a5 : Int32) (x3_o1 : Int32), f_X6_linkFrom_L5 mo_links mo_fromOf mo_toOf x1 x2 n x3_a5 x4_a5 = some x3_o1 → (∀ (H : Heap) (locs : List Loc) (ls : Array Slot), va_P D vwCl (wdM cI cJ ad mo_pageLength mo_page mo_nodes mo_links mo_fromOf mo_toOf mo_width mo_drawn mo_seed mo_bundleOf mo_netsRead mo_sent mo_passagesEver mo_astrayEver mo_loopsEver mo_newNodes mo_newPairs mo_due mo_newOne mo_newFrom mo_newTo mo_marks mo_drawing mo_leftOf mo_wayMany mo_wayAt mo_bitsNow mo_passages mo_astray mo_loops mo_steps mo_reached mo_others mo_h) H → va_D A (wdM cI cJ ad mo_pageLength mo_page mo_nodes mo_links mo_fromOf mo_toOf mo_width mo_drawn mo_seed mo_bundleOf mo_netsRead mo_sent mo_passagesEver mo_astrayEver mo_loopsEver mo_newNodes mo_newPairs mo_due mo_newOne mo_newFrom mo_newTo mo_marks mo_drawing mo_leftOf mo_wayMany mo_wayAt mo_bitsNow mo_passages mo_astray mo_loops mo_steps mo_reached mo_others mo_h) → va_S A s.heap H locs → lv_has ls 5 [(3, .int x3_o1)] → W p l e rm_X6_linkFrom s m args below meth c H locs 0 0 Q (F0 m 49 ls [])) → ∀ (H : Heap) (locs : List Loc) (ls : Array Slot), va_P D vwCl (wdM cI cJ ad mo_pageLength mo_page mo_nodes mo_links mo_fromOf mo_toOf mo_width mo_drawn mo_seed mo_bundleOf mo_netsRead mo_sent mo_passagesEver mo_astrayEver mo_loopsEver mo_newNodes mo_newPairs mo_due mo_newOne mo_newFrom mo_newTo mo_marks mo_drawing mo_leftOf mo_wayMany mo_wayAt mo_bitsNow mo_passages mo_astray mo_loops mo_steps mo_reached mo_others mo_h) H → va_D A (wdM cI cJ ad mo_pageLength mo_page mo_nodes mo_links mo_fromOf mo_toOf mo_width mo_drawn mo_seed mo_bundleOf mo_netsRead mo_sent mo_passagesEver mo_astrayEver mo_loopsEver mo_newNodes mo_newPairs mo_due mo_newOne mo_newFrom mo_newTo mo_marks mo_drawing mo_leftOf mo_wayMany mo_wayAt mo_bitsNow mo_passages mo_astray mo_loops mo_steps mo_reached mo_others mo_h) → va_S A s.heap H locs → lv_has ls 5 [(0, .ref (ad 15)), (1, .int x1), (2, .int x2), (3, .int x3_a5), (4, .int x4_a5)] → W p l e rm_X6_linkFrom s m args below meth c H locs 0 0 Q (F0 m 5 ls []) := by
    intro n
    induction n with
    | zero =>
      intro x3_a5 x4_a5 x3_o1 h0
      exact oo_n h0
    | succ n ih =>
      intro x3_a5 x4_a5 x3_o1 hf kk H locs ls hP hD hS hl
      rw [f_X6_linkFrom_L5_s] at hf
      refine lv_iload hx hb dX6_linkFrom_5 (lv_at hl 4 rfl) ?_
      refine lv_aload_n hx hb dX6_linkFrom_7 rfl (lv_at hl 0 rfl) ?_
      refine va_get (ci := 6) (v := .int mo_links) (C := RX6) (T := TX6) (N := 34) hx hb hts hin_X6 hown hK hP 0 rfl rfl 3 (by decide) fl_85 (fun _ h9 => h9) rfl dX6_linkFrom_8 ?_
      refine lv_icmp_ge (tgt := 49) hx hb dX6_linkFrom_11 (by decide) (fun c3 => ?_) (fun c3 => ?_)
      · have hf := oo_t hf c3
        cases hf
        exact kk _ _ _ hP hD hS (lv_sub hl [3] rfl)
      · have hf := oo_f hf c3
        refine lv_aload_n hx hb dX6_linkFrom_14 rfl (lv_at hl 0 rfl) ?_
        refine va_get (ci := 6) (v := .ref (ad 17)) (C := RX6) (T := TX6) (N := 34) hx hb hts hin_X6 hown hK hP 0 rfl rfl 4 (by decide) fl_13 (fun _ h9 => h9) rfl dX6_linkFrom_15 ?_
        refine lv_iload hx hb dX6_linkFrom_18 (lv_at hl 4 rfl) ?_
        obtain ⟨g4, hf⟩ := oo_g hf
        refine va_iald hx hb hK hP 2 0 rfl rfl g4 dX6_linkFrom_20 ?_
        refine lv_iload_n hx hb dX6_linkFrom_21 rfl (lv_at hl 1 rfl) ?_
        have kj6 : ∀ (k_5 : Int32), k_5 = (if (mo_fromOf (x4_a5).toNatClampNeg) = x1 then (if (mo_toOf (x4_a5).toNatClampNeg) = x2 then x4_a5 else x3_a5) else x3_a5) → ∀ (H : Heap) (locs : List Loc) (ls : Array Slot), va_P D vwCl (wdM cI cJ ad mo_pageLength mo_page mo_nodes mo_links mo_fromOf mo_toOf mo_width mo_drawn mo_seed mo_bundleOf mo_netsRead mo_sent mo_passagesEver mo_astrayEver mo_loopsEver mo_newNodes mo_newPairs mo_due mo_newOne mo_newFrom mo_newTo mo_marks mo_drawing mo_leftOf mo_wayMany mo_wayAt mo_bitsNow mo_passages mo_astray mo_loops mo_steps mo_reached mo_others mo_h) H → va_D A (wdM cI cJ ad mo_pageLength mo_page mo_nodes mo_links mo_fromOf mo_toOf mo_width mo_drawn mo_seed mo_bundleOf mo_netsRead mo_sent mo_passagesEver mo_astrayEver mo_loopsEver mo_newNodes mo_newPairs mo_due mo_newOne mo_newFrom mo_newTo mo_marks mo_drawing mo_leftOf mo_wayMany mo_wayAt mo_bitsNow mo_passages mo_astray mo_loops mo_steps mo_reached mo_others mo_h) → va_S A s.heap H locs → lv_has ls 5 [(0, .ref (ad 15)), (1, .int x1), (2, .int x2), (4, .int x4_a5)] → W p l e rm_X6_linkFrom s m args below meth c H locs 0 0 Q (F0 m 42 ls [.int k_5]) := by
          intro k_5 ek_5
          subst ek_5
          intro H locs ls hP hD hS hl
          refine lv_istore_n (lv' := [(3, .int (if (mo_fromOf (x4_a5).toNatClampNeg) = x1 then (if (mo_toOf (x4_a5).toNatClampNeg) = x2 then x4_a5 else x3_a5) else x3_a5)), (0, .ref (ad 15)), (1, .int x1), (2, .int x2), (4, .int x4_a5)]) hx hb dX6_linkFrom_42 rfl hl (by decide) rfl (fun ls hl => ?_)
          refine lv_iinc (v := (x4_a5 + (1 : Int32))) (lv' := [(4, .int (x4_a5 + (1 : Int32))), (3, .int (if (mo_fromOf (x4_a5).toNatClampNeg) = x1 then (if (mo_toOf (x4_a5).toNatClampNeg) = x2 then x4_a5 else x3_a5) else x3_a5)), (0, .ref (ad 15)), (1, .int x1), (2, .int x2)]) hx hb dX6_linkFrom_43 hl (k := 4) rfl rfl (by decide) rfl (fun ls hl => ?_)
          refine lv_goto (tgt := 5) hx hb dX6_linkFrom_46 (by decide) ?_
          exact ih (if (mo_fromOf (x4_a5).toNatClampNeg) = x1 then (if (mo_toOf (x4_a5).toNatClampNeg) = x2 then x4_a5 else x3_a5) else x3_a5) (x4_a5 + (1 : Int32)) _ hf kk _ _ _ hP hD hS (lv_sub hl [2, 3, 4, 1, 0] rfl)
        refine lv_icmp_ne (tgt := 41) hx hb dX6_linkFrom_22 (by decide) (fun c7 => ?_) (fun c7 => ?_)
        · refine lv_iload_n hx hb dX6_linkFrom_41 rfl (lv_at hl 3 rfl) ?_
          exact kj6 x3_a5 (if_neg c7).symm _ _ _ hP hD hS (lv_sub hl [0, 1, 2, 4] rfl)
        · refine lv_aload_n hx hb dX6_linkFrom_25 rfl (lv_at hl 0 rfl) ?_
          refine va_get (ci := 6) (v := .ref (ad 18)) (C := RX6) (T := TX6) (N := 34) hx hb hts hin_X6 hown hK hP 0 rfl rfl 5 (by decide) fl_16 (fun _ h9 => h9) rfl dX6_linkFrom_26 ?_
          refine lv_iload hx hb dX6_linkFrom_29 (lv_at hl 4 rfl) ?_
          refine va_iald hx hb hK hP 3 0 rfl rfl g4 dX6_linkFrom_31 ?_
          refine lv_iload_n hx hb dX6_linkFrom_32 rfl (lv_at hl 2 rfl) ?_
          refine lv_icmp_ne (tgt := 41) hx hb dX6_linkFrom_33 (by decide) (fun c9 => ?_) (fun c9 => ?_)
          · refine lv_iload_n hx hb dX6_linkFrom_41 rfl (lv_at hl 3 rfl) ?_
            exact kj6 x3_a5 ((if_pos c7).trans (if_neg c9)).symm _ _ _ hP hD hS (lv_sub hl [0, 1, 2, 4] rfl)
          · refine lv_iload hx hb dX6_linkFrom_36 (lv_at hl 4 rfl) ?_
            refine lv_goto (tgt := 42) hx hb dX6_linkFrom_38 (by decide) ?_
            exact kj6 x4_a5 ((if_pos c7).trans (if_pos c9)).symm _ _ _ hP hD hS (lv_sub hl [0, 1, 2, 4] rfl)
  obtain ⟨x3_o1, h10, hf⟩ := oo_b hf
  try dsimp only at hf
  refine lp2  100 (-1 : Int32) (0 : Int32) x3_o1 h10 (fun H locs ls hP hD hS hl => ?_) _ _ _ hP hD hS (lv_sub hl [2, 3, 4, 1, 0] rfl)
  refine lv_iload_n hx hb dX6_linkFrom_49 rfl (lv_at hl 0 rfl) ?_
  cases hf
  exact hret _ _ _ _ dX6_linkFrom_50 hP hD hS
def f_X6_treeOf_L33 (mo_links : Int32) (mo_fromOf : Nat → Int32) (mo_toOf : Nat → Int32) (mo_wayMany_17 : Int32) (mo_wayAt_18 : Nat → Int32) : Nat → Int32 → Int32 → Option (Int32)
  | 0, _, _ => none
  | n + 1, x3_a33, x5_a33 =>
      if mo_wayMany_17 ≤ x5_a33 then
        some x3_a33
      else
        if (x5_a33 - (1 : Int32)) < 0 ∨ 6 ≤ ((x5_a33 - (1 : Int32))).toNatClampNeg then none else
        if x5_a33 < 0 ∨ 6 ≤ (x5_a33).toNatClampNeg then none else
        Option.bind (f_X6_linkFrom mo_links mo_fromOf mo_toOf (mo_wayAt_18 ((x5_a33 - (1 : Int32))).toNatClampNeg) (mo_wayAt_18 (x5_a33).toNatClampNeg)) fun r26 =>
        f_X6_treeOf_L33 mo_links mo_fromOf mo_toOf mo_wayMany_17 mo_wayAt_18 n (x3_a33 ||| ((1 : Int32) <<< (r26 &&& 31))) (x5_a33 + (1 : Int32))
theorem f_X6_treeOf_L33_s (mo_links : Int32) (mo_fromOf : Nat → Int32) (mo_toOf : Nat → Int32) (mo_wayMany_17 : Int32) (mo_wayAt_18 : Nat → Int32) (n : Nat) (x3_a33 : Int32) (x5_a33 : Int32) : f_X6_treeOf_L33 mo_links mo_fromOf mo_toOf mo_wayMany_17 mo_wayAt_18 (n + 1) x3_a33 x5_a33 =
      (if mo_wayMany_17 ≤ x5_a33 then
        some x3_a33
      else
        if (x5_a33 - (1 : Int32)) < 0 ∨ 6 ≤ ((x5_a33 - (1 : Int32))).toNatClampNeg then none else
        if x5_a33 < 0 ∨ 6 ≤ (x5_a33).toNatClampNeg then none else
        Option.bind (f_X6_linkFrom mo_links mo_fromOf mo_toOf (mo_wayAt_18 ((x5_a33 - (1 : Int32))).toNatClampNeg) (mo_wayAt_18 (x5_a33).toNatClampNeg)) fun r26 =>
        f_X6_treeOf_L33 mo_links mo_fromOf mo_toOf mo_wayMany_17 mo_wayAt_18 n (x3_a33 ||| ((1 : Int32) <<< (r26 &&& 31))) (x5_a33 + (1 : Int32))) := rfl
def f_X6_treeOf_L5 (mo_nodes : Int32) (mo_links : Int32) (mo_fromOf : Nat → Int32) (mo_toOf : Nat → Int32) (x1 : Int32) (x2 : Int32) : Nat → (Nat → Int32) → Int32 → (Nat → Int32) → Int32 → Int32 → Option ((Nat → Int32) × Int32 × (Nat → Int32) × Int32)
  | 0, _, _, _, _, _ => none
  | n + 1, mo_leftOf_a5, mo_wayMany_a5, mo_wayAt_a5, x3_a5, x4_a5 =>
      if mo_nodes ≤ x4_a5 then
        some (mo_leftOf_a5, mo_wayMany_a5, mo_wayAt_a5, x3_a5)
      else
        Option.bind (α := (Nat → Int32) × Int32 × (Nat → Int32) × Int32) (if (f_X6_has x2 x4_a5) = (0 : Int32) then
            some (mo_leftOf_a5, mo_wayMany_a5, mo_wayAt_a5, x3_a5)
          else
            Option.bind (f_X6_layWay mo_nodes mo_links mo_fromOf mo_toOf mo_leftOf_a5 mo_wayAt_a5 x1 x4_a5) fun (mo_leftOf_16, mo_wayMany_17, mo_wayAt_18) =>
            Option.bind (f_X6_treeOf_L33 mo_links mo_fromOf mo_toOf mo_wayMany_17 mo_wayAt_18 100 x3_a5 (1 : Int32)) fun x3_o20 =>
            some (mo_leftOf_16, mo_wayMany_17, mo_wayAt_18, x3_o20)) fun (mo_leftOf_8, mo_wayMany_9, mo_wayAt_10, x3_11) =>
        f_X6_treeOf_L5 mo_nodes mo_links mo_fromOf mo_toOf x1 x2 n mo_leftOf_8 mo_wayMany_9 mo_wayAt_10 x3_11 (x4_a5 + (1 : Int32))
theorem f_X6_treeOf_L5_s (mo_nodes : Int32) (mo_links : Int32) (mo_fromOf : Nat → Int32) (mo_toOf : Nat → Int32) (x1 : Int32) (x2 : Int32) (n : Nat) (mo_leftOf_a5 : Nat → Int32) (mo_wayMany_a5 : Int32) (mo_wayAt_a5 : Nat → Int32) (x3_a5 : Int32) (x4_a5 : Int32) : f_X6_treeOf_L5 mo_nodes mo_links mo_fromOf mo_toOf x1 x2 (n + 1) mo_leftOf_a5 mo_wayMany_a5 mo_wayAt_a5 x3_a5 x4_a5 =
      (if mo_nodes ≤ x4_a5 then
        some (mo_leftOf_a5, mo_wayMany_a5, mo_wayAt_a5, x3_a5)
      else
        Option.bind (α := (Nat → Int32) × Int32 × (Nat → Int32) × Int32) (if (f_X6_has x2 x4_a5) = (0 : Int32) then
            some (mo_leftOf_a5, mo_wayMany_a5, mo_wayAt_a5, x3_a5)
          else
            Option.bind (f_X6_layWay mo_nodes mo_links mo_fromOf mo_toOf mo_leftOf_a5 mo_wayAt_a5 x1 x4_a5) fun (mo_leftOf_16, mo_wayMany_17, mo_wayAt_18) =>
            Option.bind (f_X6_treeOf_L33 mo_links mo_fromOf mo_toOf mo_wayMany_17 mo_wayAt_18 100 x3_a5 (1 : Int32)) fun x3_o20 =>
            some (mo_leftOf_16, mo_wayMany_17, mo_wayAt_18, x3_o20)) fun (mo_leftOf_8, mo_wayMany_9, mo_wayAt_10, x3_11) =>
        f_X6_treeOf_L5 mo_nodes mo_links mo_fromOf mo_toOf x1 x2 n mo_leftOf_8 mo_wayMany_9 mo_wayAt_10 x3_11 (x4_a5 + (1 : Int32))) := rfl
def f_X6_treeOf (mo_nodes : Int32) (mo_links : Int32) (mo_fromOf : Nat → Int32) (mo_toOf : Nat → Int32) (mo_leftOf : Nat → Int32) (mo_wayMany : Int32) (mo_wayAt : Nat → Int32) (x1 : Int32) (x2 : Int32) : Option (Int32 × (Nat → Int32) × Int32 × (Nat → Int32)) :=
  Option.bind (f_X6_treeOf_L5 mo_nodes mo_links mo_fromOf mo_toOf x1 x2 100 mo_leftOf mo_wayMany mo_wayAt (0 : Int32) (0 : Int32)) fun (mo_leftOf_o1, mo_wayMany_o2, mo_wayAt_o3, x3_o4) =>
  some (x3_o4, mo_leftOf_o1, mo_wayMany_o2, mo_wayAt_o3)
abbrev rm_X6_treeOf : Room := { frames := 2, cells := 0, slots := 0, locals := 48 }
set_option maxHeartbeats 4000000 in
set_option maxRecDepth 100000 in
theorem c_X6_treeOf (l : Launch) (D : va_G) (cI cJ : ClassId) (ad : Nat → Nat) (sz : Nat) {mo_pageLength : Int32} {mo_page : Nat → Int32} {mo_nodes mo_links : Int32} {mo_fromOf mo_toOf : Nat → Int32} {mo_width mo_drawn mo_seed : Int32} {mo_bundleOf : Nat → Int32} {mo_netsRead mo_sent mo_passagesEver mo_astrayEver mo_loopsEver mo_newNodes mo_newPairs mo_due mo_newOne : Int32} {mo_newFrom mo_newTo : Nat → Int32} {mo_marks : Nat → Int64} {mo_drawing : Int64} {mo_leftOf : Nat → Int32} {mo_wayMany : Int32} {mo_wayAt : Nat → Int32} {mo_bitsNow : Int64} {mo_passages mo_astray mo_loops mo_steps mo_reached mo_others : Int32} {mo_h : Int64} (x1 : Int32) (x2 : Int32) {o_res : Int32} {o_mo_leftOf : Nat → Int32} {o_mo_wayMany : Int32} {o_mo_wayAt : Nat → Int32} (hf : f_X6_treeOf mo_nodes mo_links mo_fromOf mo_toOf mo_leftOf mo_wayMany mo_wayAt x1 x2 = some (o_res, o_mo_leftOf, o_mo_wayMany, o_mo_wayAt)) : CtI l yX6_treeOf wsX6_treeOf rm_X6_treeOf D cI cJ [.ref (ad 15), .int x1, .int x2] (wdM cI cJ ad mo_pageLength mo_page mo_nodes mo_links mo_fromOf mo_toOf mo_width mo_drawn mo_seed mo_bundleOf mo_netsRead mo_sent mo_passagesEver mo_astrayEver mo_loopsEver mo_newNodes mo_newPairs mo_due mo_newOne mo_newFrom mo_newTo mo_marks mo_drawing mo_leftOf mo_wayMany mo_wayAt mo_bitsNow mo_passages mo_astray mo_loops mo_steps mo_reached mo_others mo_h) sz o_res (wdM cI cJ ad mo_pageLength mo_page mo_nodes mo_links mo_fromOf mo_toOf mo_width mo_drawn mo_seed mo_bundleOf mo_netsRead mo_sent mo_passagesEver mo_astrayEver mo_loopsEver mo_newNodes mo_newPairs mo_due mo_newOne mo_newFrom mo_newTo mo_marks mo_drawing o_mo_leftOf o_mo_wayMany o_mo_wayAt mo_bitsNow mo_passages mo_astray mo_loops mo_steps mo_reached mo_others mo_h) := by
  refine ctI_of (cc := cX6_treeOf) (maxL := 6) (by decide) rfl (Nat.le_of_ble_eq_true rfl) ?_
  intro p e s m below meth c Q A hx hb hml hown hts hK hN hA hret ls hl hP hD hS
  obtain ⟨args, hargs⟩ : ∃ a : Array Value, a = [.ref (ad 15), .int x1, .int x2].toArray := ⟨_, rfl⟩
  rw [← hargs] at hts hret ⊢
  have hown : s.vm.findClass RX6 = some m.cls := hown
  have hl : lv_has ls 6 [(0, .ref (ad 15)), (1, .int x1), (2, .int x2)] := hl
  have hin_X6 : ∀ w ∈ wsX60, w ∈ wsX6_treeOf := fun _ h => List.mem_cons_of_mem _ (List.mem_append_right _ h)
  have fl_45 : (Cond.fieldLink RX6 45 "FoldedWaysModel" "wayAt" "[I").before args s = true := hat hts 3 rfl
  have fl_82 : (Cond.fieldLink RX6 82 "FoldedWaysModel" "nodes" "I").before args s = true := hat hts 1 rfl
  have fl_134 : (Cond.fieldLink RX6 134 "FoldedWaysModel" "wayMany" "I").before args s = true := hat hts 2 rfl
  unfold f_X6_treeOf at hf
  refine lv_iconst (v := (0 : Int32)) hx hb dX6_treeOf_0 (by decide) ?_
  refine lv_istore_n (lv' := [(3, .int (0 : Int32)), (0, .ref (ad 15)), (1, .int x1), (2, .int x2)]) hx hb dX6_treeOf_1 rfl hl (by decide) rfl (fun ls hl => ?_)
  refine lv_iconst (v := (0 : Int32)) hx hb dX6_treeOf_2 (by decide) ?_
  refine lv_istore (lv' := [(4, .int (0 : Int32)), (3, .int (0 : Int32)), (0, .ref (ad 15)), (1, .int x1), (2, .int x2)]) hx hb dX6_treeOf_3 hl (by decide) rfl (fun ls hl => ?_)
  have lp5 : ∀ (n : Nat) (mo_leftOf_a5 : Nat → Int32) (mo_wayMany_a5 : Int32) (mo_wayAt_a5 : Nat → Int32) (x3_a5 : Int32) (x4_a5 : Int32) (mo_leftOf_o1 : Nat → Int32) (mo_wayMany_o2 : Int32) (mo_wayAt_o3 : Nat → Int32) (x3_o4 : Int32), f_X6_treeOf_L5 mo_nodes mo_links mo_fromOf mo_toOf x1 x2 n mo_leftOf_a5 mo_wayMany_a5 mo_wayAt_a5 x3_a5 x4_a5 = some (mo_leftOf_o1, mo_wayMany_o2, mo_wayAt_o3, x3_o4) → (∀ (H : Heap) (locs : List Loc) (ls : Array Slot), va_P D vwCl (wdM cI cJ ad mo_pageLength mo_page mo_nodes mo_links mo_fromOf mo_toOf mo_width mo_drawn mo_seed mo_bundleOf mo_netsRead mo_sent mo_passagesEver mo_astrayEver mo_loopsEver mo_newNodes mo_newPairs mo_due mo_newOne mo_newFrom mo_newTo mo_marks mo_drawing mo_leftOf_o1 mo_wayMany_o2 mo_wayAt_o3 mo_bitsNow mo_passages mo_astray mo_loops mo_steps mo_reached mo_others mo_h) H → va_D A (wdM cI cJ ad mo_pageLength mo_page mo_nodes mo_links mo_fromOf mo_toOf mo_width mo_drawn mo_seed mo_bundleOf mo_netsRead mo_sent mo_passagesEver mo_astrayEver mo_loopsEver mo_newNodes mo_newPairs mo_due mo_newOne mo_newFrom mo_newTo mo_marks mo_drawing mo_leftOf_o1 mo_wayMany_o2 mo_wayAt_o3 mo_bitsNow mo_passages mo_astray mo_loops mo_steps mo_reached mo_others mo_h) → va_S A s.heap H locs → lv_has ls 6 [(3, .int x3_o4)] → W p l e rm_X6_treeOf s m args below meth c H locs 0 0 Q (F0 m 79 ls [])) → ∀ (H : Heap) (locs : List Loc) (ls : Array Slot), va_P D vwCl (wdM cI cJ ad mo_pageLength mo_page mo_nodes mo_links mo_fromOf mo_toOf mo_width mo_drawn mo_seed mo_bundleOf mo_netsRead mo_sent mo_passagesEver mo_astrayEver mo_loopsEver mo_newNodes mo_newPairs mo_due mo_newOne mo_newFrom mo_newTo mo_marks mo_drawing mo_leftOf_a5 mo_wayMany_a5 mo_wayAt_a5 mo_bitsNow mo_passages mo_astray mo_loops mo_steps mo_reached mo_others mo_h) H → va_D A (wdM cI cJ ad mo_pageLength mo_page mo_nodes mo_links mo_fromOf mo_toOf mo_width mo_drawn mo_seed mo_bundleOf mo_netsRead mo_sent mo_passagesEver mo_astrayEver mo_loopsEver mo_newNodes mo_newPairs mo_due mo_newOne mo_newFrom mo_newTo mo_marks mo_drawing mo_leftOf_a5 mo_wayMany_a5 mo_wayAt_a5 mo_bitsNow mo_passages mo_astray mo_loops mo_steps mo_reached mo_others mo_h) → va_S A s.heap H locs → lv_has ls 6 [(0, .ref (ad 15)), (1, .int x1), (2, .int x2), (3, .int x3_a5), (4, .int x4_a5)] → W p l e rm_X6_treeOf s m args below meth c H locs 0 0 Q (F0 m 5 ls []) := by
    intro n
    induction n with
    | zero =>
      intro mo_leftOf_a5 mo_wayMany_a5 mo_wayAt_a5 x3_a5 x4_a5 mo_leftOf_o1 mo_wayMany_o2 mo_wayAt_o3 x3_o4 h0
      exact oo_n h0
    | succ n ih =>
      intro mo_leftOf_a5 mo_wayMany_a5 mo_wayAt_a5 x3_a5 x4_a5 mo_leftOf_o1 mo_wayMany_o2 mo_wayAt_o3 x3_o4 hf kk H locs ls hP hD hS hl
      rw [f_X6_treeOf_L5_s] at hf
      refine lv_iload hx hb dX6_treeOf_5 (lv_at hl 4 rfl) ?_
      refine lv_aload_n hx hb dX6_treeOf_7 rfl (lv_at hl 0 rfl) ?_
      refine va_get (ci := 6) (v := .int mo_nodes) (C := RX6) (T := TX6) (N := 34) hx hb hts hin_X6 hown hK hP 0 rfl rfl 2 (by decide) fl_82 (fun _ h9 => h9) rfl dX6_treeOf_8 ?_
      refine lv_icmp_ge (tgt := 79) hx hb dX6_treeOf_11 (by decide) (fun c6 => ?_) (fun c6 => ?_)
      · have hf := oo_t hf c6
        cases hf
        exact kk _ _ _ hP hD hS (lv_sub hl [3] rfl)
      · have hf := oo_f hf c6
        refine lv_iload_n hx hb dX6_treeOf_14 rfl (lv_at hl 2 rfl) ?_
        refine lv_iload hx hb dX6_treeOf_15 (lv_at hl 4 rfl) ?_
        have F : Fr D A _ [] [] (wdM cI cJ ad mo_pageLength mo_page mo_nodes mo_links mo_fromOf mo_toOf mo_width mo_drawn mo_seed mo_bundleOf mo_netsRead mo_sent mo_passagesEver mo_astrayEver mo_loopsEver mo_newNodes mo_newPairs mo_due mo_newOne mo_newFrom mo_newTo mo_marks mo_drawing mo_leftOf_a5 mo_wayMany_a5 mo_wayAt_a5 mo_bitsNow mo_passages mo_astray mo_loops mo_steps mo_reached mo_others mo_h) := fr_nil hP hD hS hA
        refine kZ F hS (rS (As := [.int x2, .int x4_a5]) (rest := []) ⟨hx, hb, hml, hown, hts⟩ hK hN F (c_X6_has l D cI cJ ad _  x2 x4_a5 (o_res := (f_X6_has x2 x4_a5)) rfl) (cwS 2 hts gX6_treeOf_X6_has rfl rfl rfl (by decide +kernel) ⟨Nat.le_of_ble_eq_true rfl, Nat.le_of_ble_eq_true rfl⟩) rfl hl.1 rfl (Nat.le_of_ble_eq_true rfl) dX6_treeOf_17 ⟨Nat.zero_le _, Nat.zero_le _⟩) (fun H locs hb7 hP hD hS => ?_)
        obtain ⟨⟨mo_leftOf_8, mo_wayMany_9, mo_wayAt_10, x3_11⟩, hj13, hf⟩ := oo_b hf
        try dsimp only at hf
        have kj12 : ∀ (H : Heap) (locs : List Loc) (ls : Array Slot), va_P D vwCl (wdM cI cJ ad mo_pageLength mo_page mo_nodes mo_links mo_fromOf mo_toOf mo_width mo_drawn mo_seed mo_bundleOf mo_netsRead mo_sent mo_passagesEver mo_astrayEver mo_loopsEver mo_newNodes mo_newPairs mo_due mo_newOne mo_newFrom mo_newTo mo_marks mo_drawing mo_leftOf_8 mo_wayMany_9 mo_wayAt_10 mo_bitsNow mo_passages mo_astray mo_loops mo_steps mo_reached mo_others mo_h) H → va_D A (wdM cI cJ ad mo_pageLength mo_page mo_nodes mo_links mo_fromOf mo_toOf mo_width mo_drawn mo_seed mo_bundleOf mo_netsRead mo_sent mo_passagesEver mo_astrayEver mo_loopsEver mo_newNodes mo_newPairs mo_due mo_newOne mo_newFrom mo_newTo mo_marks mo_drawing mo_leftOf_8 mo_wayMany_9 mo_wayAt_10 mo_bitsNow mo_passages mo_astray mo_loops mo_steps mo_reached mo_others mo_h) → va_S A s.heap H locs → lv_has ls 6 [(0, .ref (ad 15)), (1, .int x1), (2, .int x2), (3, .int x3_11), (4, .int x4_a5)] → W p l e rm_X6_treeOf s m args below meth c H locs 0 0 Q (F0 m 73 ls []) := by
          intro H locs ls hP hD hS hl
          refine lv_iinc (v := (x4_a5 + (1 : Int32))) (lv' := [(4, .int (x4_a5 + (1 : Int32))), (0, .ref (ad 15)), (1, .int x1), (2, .int x2), (3, .int x3_11)]) hx hb dX6_treeOf_73 hl (k := 4) rfl rfl (by decide) rfl (fun ls hl => ?_)
          refine lv_goto (tgt := 5) hx hb dX6_treeOf_76 (by decide) ?_
          exact ih mo_leftOf_8 mo_wayMany_9 mo_wayAt_10 x3_11 (x4_a5 + (1 : Int32)) _ _ _ _ hf kk _ _ _ hP hD hS (lv_sub hl [1, 2, 3, 4, 0] rfl)
        clear hf
        have hf := hj13
        clear hj13
        refine lv_if_eq (tgt := 73) hx hb dX6_treeOf_20 (by decide) (fun c14 => ?_) (fun c14 => ?_)
        · have hf := oo_t hf c14
          cases hf
          exact kj12 _ _ _ hP hD hS (lv_sub hl [0, 1, 2, 3, 4] rfl)
        · have hf := oo_f hf c14
          refine lv_aload_n hx hb dX6_treeOf_23 rfl (lv_at hl 0 rfl) ?_
          refine lv_iload_n hx hb dX6_treeOf_24 rfl (lv_at hl 1 rfl) ?_
          refine lv_iload hx hb dX6_treeOf_25 (lv_at hl 4 rfl) ?_
          obtain ⟨⟨mo_leftOf_16, mo_wayMany_17, mo_wayAt_18⟩, h15, hf⟩ := oo_b hf
          try dsimp only at hf
          have F : Fr D A _ (wdM cI cJ ad mo_pageLength mo_page mo_nodes mo_links mo_fromOf mo_toOf mo_width mo_drawn mo_seed mo_bundleOf mo_netsRead mo_sent mo_passagesEver mo_astrayEver mo_loopsEver mo_newNodes mo_newPairs mo_due mo_newOne mo_newFrom mo_newTo mo_marks mo_drawing mo_leftOf_a5 mo_wayMany_a5 mo_wayAt_a5 mo_bitsNow mo_passages mo_astray mo_loops mo_steps mo_reached mo_others mo_h) (wdM cI cJ ad mo_pageLength mo_page mo_nodes mo_links mo_fromOf mo_toOf mo_width mo_drawn mo_seed mo_bundleOf mo_netsRead mo_sent mo_passagesEver mo_astrayEver mo_loopsEver mo_newNodes mo_newPairs mo_due mo_newOne mo_newFrom mo_newTo mo_marks mo_drawing mo_leftOf_16 mo_wayMany_17 mo_wayAt_18 mo_bitsNow mo_passages mo_astray mo_loops mo_steps mo_reached mo_others mo_h) (wdM cI cJ ad mo_pageLength mo_page mo_nodes mo_links mo_fromOf mo_toOf mo_width mo_drawn mo_seed mo_bundleOf mo_netsRead mo_sent mo_passagesEver mo_astrayEver mo_loopsEver mo_newNodes mo_newPairs mo_due mo_newOne mo_newFrom mo_newTo mo_marks mo_drawing mo_leftOf_16 mo_wayMany_17 mo_wayAt_18 mo_bitsNow mo_passages mo_astray mo_loops mo_steps mo_reached mo_others mo_h) := fr_self hP hD hS hA
          refine kV F hS (rV (q := (RX6, TX6, 34)) (As := [.int x1, .int x4_a5]) (rest := []) ⟨hx, hb, hml, hown, hts⟩ hK hN F (c_X6_layWay l D cI cJ ad _ (mo_pageLength := mo_pageLength) (mo_page := mo_page) (mo_nodes := mo_nodes) (mo_links := mo_links) (mo_fromOf := mo_fromOf) (mo_toOf := mo_toOf) (mo_width := mo_width) (mo_drawn := mo_drawn) (mo_seed := mo_seed) (mo_bundleOf := mo_bundleOf) (mo_netsRead := mo_netsRead) (mo_sent := mo_sent) (mo_passagesEver := mo_passagesEver) (mo_astrayEver := mo_astrayEver) (mo_loopsEver := mo_loopsEver) (mo_newNodes := mo_newNodes) (mo_newPairs := mo_newPairs) (mo_due := mo_due) (mo_newOne := mo_newOne) (mo_newFrom := mo_newFrom) (mo_newTo := mo_newTo) (mo_marks := mo_marks) (mo_drawing := mo_drawing) (mo_leftOf := mo_leftOf_a5) (mo_wayMany := mo_wayMany_a5) (mo_wayAt := mo_wayAt_a5) (mo_bitsNow := mo_bitsNow) (mo_passages := mo_passages) (mo_astray := mo_astray) (mo_loops := mo_loops) (mo_steps := mo_steps) (mo_reached := mo_reached) (mo_others := mo_others) (mo_h := mo_h) x1 x4_a5 (o_mo_leftOf := mo_leftOf_16) (o_mo_wayMany := mo_wayMany_17) (o_mo_wayAt := mo_wayAt_18) h15) (cwV 2 hts gX6_treeOf_X6_layWay rfl rfl rfl (by decide +kernel) ⟨Nat.le_of_ble_eq_true rfl, Nat.le_of_ble_eq_true rfl⟩) (ci := 6) rfl rfl rfl hl.1 rfl (Nat.le_of_ble_eq_true rfl) dX6_treeOf_27 ⟨Nat.zero_le _, Nat.zero_le _⟩) (fun H locs hP hD hS => ?_)
          refine lv_iconst (v := (1 : Int32)) hx hb dX6_treeOf_30 (by decide) ?_
          refine lv_istore (lv' := [(5, .int (1 : Int32)), (0, .ref (ad 15)), (1, .int x1), (2, .int x2), (3, .int x3_a5), (4, .int x4_a5)]) hx hb dX6_treeOf_31 hl (by decide) rfl (fun ls hl => ?_)
          have lp21 : ∀ (n : Nat) (x3_a33 : Int32) (x5_a33 : Int32) (x3_o20 : Int32), f_X6_treeOf_L33 mo_links mo_fromOf mo_toOf mo_wayMany_17 mo_wayAt_18 n x3_a33 x5_a33 = some x3_o20 → (∀ (H : Heap) (locs : List Loc) (ls : Array Slot), va_P D vwCl (wdM cI cJ ad mo_pageLength mo_page mo_nodes mo_links mo_fromOf mo_toOf mo_width mo_drawn mo_seed mo_bundleOf mo_netsRead mo_sent mo_passagesEver mo_astrayEver mo_loopsEver mo_newNodes mo_newPairs mo_due mo_newOne mo_newFrom mo_newTo mo_marks mo_drawing mo_leftOf_16 mo_wayMany_17 mo_wayAt_18 mo_bitsNow mo_passages mo_astray mo_loops mo_steps mo_reached mo_others mo_h) H → va_D A (wdM cI cJ ad mo_pageLength mo_page mo_nodes mo_links mo_fromOf mo_toOf mo_width mo_drawn mo_seed mo_bundleOf mo_netsRead mo_sent mo_passagesEver mo_astrayEver mo_loopsEver mo_newNodes mo_newPairs mo_due mo_newOne mo_newFrom mo_newTo mo_marks mo_drawing mo_leftOf_16 mo_wayMany_17 mo_wayAt_18 mo_bitsNow mo_passages mo_astray mo_loops mo_steps mo_reached mo_others mo_h) → va_S A s.heap H locs → lv_has ls 6 [(0, .ref (ad 15)), (1, .int x1), (2, .int x2), (3, .int x3_o20), (4, .int x4_a5)] → W p l e rm_X6_treeOf s m args below meth c H locs 0 0 Q (F0 m 73 ls [])) → ∀ (H : Heap) (locs : List Loc) (ls : Array Slot), va_P D vwCl (wdM cI cJ ad mo_pageLength mo_page mo_nodes mo_links mo_fromOf mo_toOf mo_width mo_drawn mo_seed mo_bundleOf mo_netsRead mo_sent mo_passagesEver mo_astrayEver mo_loopsEver mo_newNodes mo_newPairs mo_due mo_newOne mo_newFrom mo_newTo mo_marks mo_drawing mo_leftOf_16 mo_wayMany_17 mo_wayAt_18 mo_bitsNow mo_passages mo_astray mo_loops mo_steps mo_reached mo_others mo_h) H → va_D A (wdM cI cJ ad mo_pageLength mo_page mo_nodes mo_links mo_fromOf mo_toOf mo_width mo_drawn mo_seed mo_bundleOf mo_netsRead mo_sent mo_passagesEver mo_astrayEver mo_loopsEver mo_newNodes mo_newPairs mo_due mo_newOne mo_newFrom mo_newTo mo_marks mo_drawing mo_leftOf_16 mo_wayMany_17 mo_wayAt_18 mo_bitsNow mo_passages mo_astray mo_loops mo_steps mo_reached mo_others mo_h) → va_S A s.heap H locs → lv_has ls 6 [(0, .ref (ad 15)), (1, .int x1), (2, .int x2), (3, .int x3_a33), (4, .int x4_a5), (5, .int x5_a33)] → W p l e rm_X6_treeOf s m args below meth c H locs 0 0 Q (F0 m 33 ls []) := by
            intro n
            induction n with
            | zero =>
              intro x3_a33 x5_a33 x3_o20 h0
              exact oo_n h0
            | succ n ih =>
              intro x3_a33 x5_a33 x3_o20 hf kk H locs ls hP hD hS hl
              rw [f_X6_treeOf_L33_s] at hf
              refine lv_iload hx hb dX6_treeOf_33 (lv_at hl 5 rfl) ?_
              refine lv_aload_n hx hb dX6_treeOf_35 rfl (lv_at hl 0 rfl) ?_
              refine va_get (ci := 6) (v := .int mo_wayMany_17) (C := RX6) (T := TX6) (N := 34) hx hb hts hin_X6 hown hK hP 0 rfl rfl 24 (by decide) fl_134 (fun _ h9 => h9) rfl dX6_treeOf_36 ?_
              refine lv_icmp_ge (tgt := 73) hx hb dX6_treeOf_39 (by decide) (fun c22 => ?_) (fun c22 => ?_)
              · have hf := oo_t hf c22
                cases hf
                exact kk _ _ _ hP hD hS (lv_sub hl [0, 1, 2, 3, 4] rfl)
              · have hf := oo_f hf c22
                refine lv_iload_n hx hb dX6_treeOf_42 rfl (lv_at hl 3 rfl) ?_
                refine lv_iconst (v := (1 : Int32)) hx hb dX6_treeOf_43 (by decide) ?_
                refine lv_aload_n hx hb dX6_treeOf_44 rfl (lv_at hl 0 rfl) ?_
                refine lv_aload_n hx hb dX6_treeOf_45 rfl (lv_at hl 0 rfl) ?_
                refine va_get (ci := 6) (v := .ref (ad 24)) (C := RX6) (T := TX6) (N := 34) hx hb hts hin_X6 hown hK hP 0 rfl rfl 25 (by decide) fl_45 (fun _ h9 => h9) rfl dX6_treeOf_46 ?_
                refine lv_iload hx hb dX6_treeOf_49 (lv_at hl 5 rfl) ?_
                refine lv_iconst (v := (1 : Int32)) hx hb dX6_treeOf_51 (by decide) ?_
                refine lv_isub hx hb dX6_treeOf_52 ?_
                obtain ⟨g23, hf⟩ := oo_g hf
                refine va_iald hx hb hK hP 9 0 rfl rfl g23 dX6_treeOf_53 ?_
                refine lv_aload_n hx hb dX6_treeOf_54 rfl (lv_at hl 0 rfl) ?_
                refine va_get (ci := 6) (v := .ref (ad 24)) (C := RX6) (T := TX6) (N := 34) hx hb hts hin_X6 hown hK hP 0 rfl rfl 25 (by decide) fl_45 (fun _ h9 => h9) rfl dX6_treeOf_55 ?_
                refine lv_iload hx hb dX6_treeOf_58 (lv_at hl 5 rfl) ?_
                obtain ⟨g24, hf⟩ := oo_g hf
                refine va_iald hx hb hK hP 9 0 rfl rfl g24 dX6_treeOf_60 ?_
                obtain ⟨r26, h25, hf⟩ := oo_b hf
                try dsimp only at hf
                have F : Fr D A _ (wdM cI cJ ad mo_pageLength mo_page mo_nodes mo_links mo_fromOf mo_toOf mo_width mo_drawn mo_seed mo_bundleOf mo_netsRead mo_sent mo_passagesEver mo_astrayEver mo_loopsEver mo_newNodes mo_newPairs mo_due mo_newOne mo_newFrom mo_newTo mo_marks mo_drawing mo_leftOf_16 mo_wayMany_17 mo_wayAt_18 mo_bitsNow mo_passages mo_astray mo_loops mo_steps mo_reached mo_others mo_h) (wdM cI cJ ad mo_pageLength mo_page mo_nodes mo_links mo_fromOf mo_toOf mo_width mo_drawn mo_seed mo_bundleOf mo_netsRead mo_sent mo_passagesEver mo_astrayEver mo_loopsEver mo_newNodes mo_newPairs mo_due mo_newOne mo_newFrom mo_newTo mo_marks mo_drawing mo_leftOf_16 mo_wayMany_17 mo_wayAt_18 mo_bitsNow mo_passages mo_astray mo_loops mo_steps mo_reached mo_others mo_h) (wdM cI cJ ad mo_pageLength mo_page mo_nodes mo_links mo_fromOf mo_toOf mo_width mo_drawn mo_seed mo_bundleOf mo_netsRead mo_sent mo_passagesEver mo_astrayEver mo_loopsEver mo_newNodes mo_newPairs mo_due mo_newOne mo_newFrom mo_newTo mo_marks mo_drawing mo_leftOf_16 mo_wayMany_17 mo_wayAt_18 mo_bitsNow mo_passages mo_astray mo_loops mo_steps mo_reached mo_others mo_h) := fr_self hP hD hS hA
                refine kI F hS (rV (q := (RX6, TX6, 34)) (As := [.int (mo_wayAt_18 ((x5_a33 - (1 : Int32))).toNatClampNeg), .int (mo_wayAt_18 (x5_a33).toNatClampNeg)]) (rest := [.int (1 : Int32), .int x3_a33]) ⟨hx, hb, hml, hown, hts⟩ hK hN F (c_X6_linkFrom l D cI cJ ad _ (mo_pageLength := mo_pageLength) (mo_page := mo_page) (mo_nodes := mo_nodes) (mo_links := mo_links) (mo_fromOf := mo_fromOf) (mo_toOf := mo_toOf) (mo_width := mo_width) (mo_drawn := mo_drawn) (mo_seed := mo_seed) (mo_bundleOf := mo_bundleOf) (mo_netsRead := mo_netsRead) (mo_sent := mo_sent) (mo_passagesEver := mo_passagesEver) (mo_astrayEver := mo_astrayEver) (mo_loopsEver := mo_loopsEver) (mo_newNodes := mo_newNodes) (mo_newPairs := mo_newPairs) (mo_due := mo_due) (mo_newOne := mo_newOne) (mo_newFrom := mo_newFrom) (mo_newTo := mo_newTo) (mo_marks := mo_marks) (mo_drawing := mo_drawing) (mo_leftOf := mo_leftOf_16) (mo_wayMany := mo_wayMany_17) (mo_wayAt := mo_wayAt_18) (mo_bitsNow := mo_bitsNow) (mo_passages := mo_passages) (mo_astray := mo_astray) (mo_loops := mo_loops) (mo_steps := mo_steps) (mo_reached := mo_reached) (mo_others := mo_others) (mo_h := mo_h) (mo_wayAt_18 ((x5_a33 - (1 : Int32))).toNatClampNeg) (mo_wayAt_18 (x5_a33).toNatClampNeg) (o_res := r26) h25) (cwV 2 hts gX6_treeOf_X6_linkFrom rfl rfl rfl (by decide +kernel) ⟨Nat.le_of_ble_eq_true rfl, Nat.le_of_ble_eq_true rfl⟩) (ci := 6) rfl rfl rfl hl.1 rfl (Nat.le_of_ble_eq_true rfl) dX6_treeOf_61 ⟨Nat.zero_le _, Nat.zero_le _⟩) (fun H locs hP hD hS => ?_)
                refine lv_ishl hx hb dX6_treeOf_64 ?_
                refine lv_ior hx hb dX6_treeOf_65 ?_
                refine lv_istore_n (lv' := [(3, .int (x3_a33 ||| ((1 : Int32) <<< (r26 &&& 31)))), (0, .ref (ad 15)), (1, .int x1), (2, .int x2), (4, .int x4_a5), (5, .int x5_a33)]) hx hb dX6_treeOf_66 rfl hl (by decide) rfl (fun ls hl => ?_)
                refine lv_iinc (v := (x5_a33 + (1 : Int32))) (lv' := [(5, .int (x5_a33 + (1 : Int32))), (3, .int (x3_a33 ||| ((1 : Int32) <<< (r26 &&& 31)))), (0, .ref (ad 15)), (1, .int x1), (2, .int x2), (4, .int x4_a5)]) hx hb dX6_treeOf_67 hl (k := 5) rfl rfl (by decide) rfl (fun ls hl => ?_)
                refine lv_goto (tgt := 33) hx hb dX6_treeOf_70 (by decide) ?_
                exact ih (x3_a33 ||| ((1 : Int32) <<< (r26 &&& 31))) (x5_a33 + (1 : Int32)) _ hf kk _ _ _ hP hD hS (lv_sub hl [2, 3, 4, 1, 5, 0] rfl)
          obtain ⟨x3_o20, h28, hf⟩ := oo_b hf
          try dsimp only at hf
          refine lp21  100 x3_a5 (1 : Int32) x3_o20 h28 (fun H locs ls hP hD hS hl => ?_) _ _ _ hP hD hS (lv_sub hl [1, 2, 3, 4, 5, 0] rfl)
          cases hf
          exact kj12 _ _ _ hP hD hS (lv_sub hl [0, 1, 2, 3, 4] rfl)
  obtain ⟨⟨mo_leftOf_o1, mo_wayMany_o2, mo_wayAt_o3, x3_o4⟩, h29, hf⟩ := oo_b hf
  try dsimp only at hf
  refine lp5  100 mo_leftOf mo_wayMany mo_wayAt (0 : Int32) (0 : Int32) mo_leftOf_o1 mo_wayMany_o2 mo_wayAt_o3 x3_o4 h29 (fun H locs ls hP hD hS hl => ?_) _ _ _ hP hD hS (lv_sub hl [2, 3, 4, 1, 0] rfl)
  refine lv_iload_n hx hb dX6_treeOf_79 rfl (lv_at hl 0 rfl) ?_
  cases hf
  exact hret _ _ _ _ dX6_treeOf_80 hP hD hS
def f_X6_isSet (mo_nodes : Int32) (x1 : Int32) : Int32 :=
  (f_X6_within x1 (0 : Int32) (((1 : Int32) <<< (mo_nodes &&& 31)) - (1 : Int32)))
abbrev rm_X6_isSet : Room := { frames := 1, cells := 0, slots := 0, locals := 22 }
set_option maxHeartbeats 4000000 in
set_option maxRecDepth 100000 in
theorem c_X6_isSet (l : Launch) (D : va_G) (cI cJ : ClassId) (ad : Nat → Nat) (sz : Nat) {mo_pageLength : Int32} {mo_page : Nat → Int32} {mo_nodes mo_links : Int32} {mo_fromOf mo_toOf : Nat → Int32} {mo_width mo_drawn mo_seed : Int32} {mo_bundleOf : Nat → Int32} {mo_netsRead mo_sent mo_passagesEver mo_astrayEver mo_loopsEver mo_newNodes mo_newPairs mo_due mo_newOne : Int32} {mo_newFrom mo_newTo : Nat → Int32} {mo_marks : Nat → Int64} {mo_drawing : Int64} {mo_leftOf : Nat → Int32} {mo_wayMany : Int32} {mo_wayAt : Nat → Int32} {mo_bitsNow : Int64} {mo_passages mo_astray mo_loops mo_steps mo_reached mo_others : Int32} {mo_h : Int64} (x1 : Int32) {o_res : Int32} (hf : f_X6_isSet mo_nodes x1 = o_res) : CtZ l yX6_isSet wsX6_isSet rm_X6_isSet D cI cJ [.ref (ad 15), .int x1] (wdM cI cJ ad mo_pageLength mo_page mo_nodes mo_links mo_fromOf mo_toOf mo_width mo_drawn mo_seed mo_bundleOf mo_netsRead mo_sent mo_passagesEver mo_astrayEver mo_loopsEver mo_newNodes mo_newPairs mo_due mo_newOne mo_newFrom mo_newTo mo_marks mo_drawing mo_leftOf mo_wayMany mo_wayAt mo_bitsNow mo_passages mo_astray mo_loops mo_steps mo_reached mo_others mo_h) sz o_res (wdM cI cJ ad mo_pageLength mo_page mo_nodes mo_links mo_fromOf mo_toOf mo_width mo_drawn mo_seed mo_bundleOf mo_netsRead mo_sent mo_passagesEver mo_astrayEver mo_loopsEver mo_newNodes mo_newPairs mo_due mo_newOne mo_newFrom mo_newTo mo_marks mo_drawing mo_leftOf mo_wayMany mo_wayAt mo_bitsNow mo_passages mo_astray mo_loops mo_steps mo_reached mo_others mo_h) := by
  refine ctZ_of (cc := cX6_isSet) (maxL := 2) (by decide) rfl (Nat.le_of_ble_eq_true rfl) ?_
  intro p e s m below meth c Q A hx hb hml hown hts hK hN hA hret ls hl hP hD hS
  obtain ⟨args, hargs⟩ : ∃ a : Array Value, a = [.ref (ad 15), .int x1].toArray := ⟨_, rfl⟩
  rw [← hargs] at hts hret ⊢
  have hown : s.vm.findClass RX6 = some m.cls := hown
  have hl : lv_has ls 2 [(0, .ref (ad 15)), (1, .int x1)] := hl
  have hin_X6 : ∀ w ∈ wsX60, w ∈ wsX6_isSet := fun _ h => List.mem_cons_of_mem _ (List.mem_append_right _ h)
  have fl_82 : (Cond.fieldLink RX6 82 "FoldedWaysModel" "nodes" "I").before args s = true := hat hts 1 rfl
  unfold f_X6_isSet at hf
  refine lv_iload_n hx hb dX6_isSet_0 rfl (lv_at hl 1 rfl) ?_
  refine lv_iconst (v := (0 : Int32)) hx hb dX6_isSet_1 (by decide) ?_
  refine lv_iconst (v := (1 : Int32)) hx hb dX6_isSet_2 (by decide) ?_
  refine lv_aload_n hx hb dX6_isSet_3 rfl (lv_at hl 0 rfl) ?_
  refine va_get (ci := 6) (v := .int mo_nodes) (C := RX6) (T := TX6) (N := 34) hx hb hts hin_X6 hown hK hP 0 rfl rfl 2 (by decide) fl_82 (fun _ h9 => h9) rfl dX6_isSet_4 ?_
  refine lv_ishl hx hb dX6_isSet_7 ?_
  refine lv_iconst (v := (1 : Int32)) hx hb dX6_isSet_8 (by decide) ?_
  refine lv_isub hx hb dX6_isSet_9 ?_
  have F : Fr D A _ [] [] (wdM cI cJ ad mo_pageLength mo_page mo_nodes mo_links mo_fromOf mo_toOf mo_width mo_drawn mo_seed mo_bundleOf mo_netsRead mo_sent mo_passagesEver mo_astrayEver mo_loopsEver mo_newNodes mo_newPairs mo_due mo_newOne mo_newFrom mo_newTo mo_marks mo_drawing mo_leftOf mo_wayMany mo_wayAt mo_bitsNow mo_passages mo_astray mo_loops mo_steps mo_reached mo_others mo_h) := fr_nil hP hD hS hA
  refine kZ F hS (rS (As := [.int x1, .int (0 : Int32), .int (((1 : Int32) <<< (mo_nodes &&& 31)) - (1 : Int32))]) (rest := []) ⟨hx, hb, hml, hown, hts⟩ hK hN F (c_X6_within l D cI cJ ad _  x1 (0 : Int32) (((1 : Int32) <<< (mo_nodes &&& 31)) - (1 : Int32)) (o_res := (f_X6_within x1 (0 : Int32) (((1 : Int32) <<< (mo_nodes &&& 31)) - (1 : Int32)))) rfl) (cwS 3 hts gX6_isSet_X6_within rfl rfl rfl (by decide +kernel) ⟨Nat.le_of_ble_eq_true rfl, Nat.le_of_ble_eq_true rfl⟩) rfl hl.1 rfl (Nat.le_of_ble_eq_true rfl) dX6_isSet_10 ⟨Nat.zero_le _, Nat.zero_le _⟩) (fun H locs hb1 hP hD hS => ?_)
  cases hf
  exact hret _ _ _ _ hb1 dX6_isSet_13 hP hD hS
def f_X6_tree (mo_nodes : Int32) (mo_links : Int32) (mo_fromOf : Nat → Int32) (mo_toOf : Nat → Int32) (mo_leftOf : Nat → Int32) (mo_wayMany : Int32) (mo_wayAt : Nat → Int32) (x1 : Int32) (x2 : Int32) : Option (Int32 × (Nat → Int32) × Int32 × (Nat → Int32)) :=
  if (f_X6_isNode mo_nodes x1) = (0 : Int32) then
    some ((-1001 : Int32), mo_leftOf, mo_wayMany, mo_wayAt)
  else
    if (f_X6_isSet mo_nodes x2) = (0 : Int32) then
      some ((-1002 : Int32), mo_leftOf, mo_wayMany, mo_wayAt)
    else
      Option.bind (f_X6_treeOf mo_nodes mo_links mo_fromOf mo_toOf mo_leftOf mo_wayMany mo_wayAt x1 x2) fun (r6, mo_leftOf_7, mo_wayMany_8, mo_wayAt_9) =>
      some (r6, mo_leftOf_7, mo_wayMany_8, mo_wayAt_9)
abbrev rm_X6_tree : Room := { frames := 3, cells := 0, slots := 0, locals := 73 }
set_option maxHeartbeats 4000000 in
set_option maxRecDepth 100000 in
theorem c_X6_tree (l : Launch) (D : va_G) (cI cJ : ClassId) (ad : Nat → Nat) (sz : Nat) {mo_pageLength : Int32} {mo_page : Nat → Int32} {mo_nodes mo_links : Int32} {mo_fromOf mo_toOf : Nat → Int32} {mo_width mo_drawn mo_seed : Int32} {mo_bundleOf : Nat → Int32} {mo_netsRead mo_sent mo_passagesEver mo_astrayEver mo_loopsEver mo_newNodes mo_newPairs mo_due mo_newOne : Int32} {mo_newFrom mo_newTo : Nat → Int32} {mo_marks : Nat → Int64} {mo_drawing : Int64} {mo_leftOf : Nat → Int32} {mo_wayMany : Int32} {mo_wayAt : Nat → Int32} {mo_bitsNow : Int64} {mo_passages mo_astray mo_loops mo_steps mo_reached mo_others : Int32} {mo_h : Int64} (x1 : Int32) (x2 : Int32) {o_res : Int32} {o_mo_leftOf : Nat → Int32} {o_mo_wayMany : Int32} {o_mo_wayAt : Nat → Int32} (hf : f_X6_tree mo_nodes mo_links mo_fromOf mo_toOf mo_leftOf mo_wayMany mo_wayAt x1 x2 = some (o_res, o_mo_leftOf, o_mo_wayMany, o_mo_wayAt)) : CtI l yX6_tree wsX6_tree rm_X6_tree D cI cJ [.ref (ad 15), .int x1, .int x2] (wdM cI cJ ad mo_pageLength mo_page mo_nodes mo_links mo_fromOf mo_toOf mo_width mo_drawn mo_seed mo_bundleOf mo_netsRead mo_sent mo_passagesEver mo_astrayEver mo_loopsEver mo_newNodes mo_newPairs mo_due mo_newOne mo_newFrom mo_newTo mo_marks mo_drawing mo_leftOf mo_wayMany mo_wayAt mo_bitsNow mo_passages mo_astray mo_loops mo_steps mo_reached mo_others mo_h) sz o_res (wdM cI cJ ad mo_pageLength mo_page mo_nodes mo_links mo_fromOf mo_toOf mo_width mo_drawn mo_seed mo_bundleOf mo_netsRead mo_sent mo_passagesEver mo_astrayEver mo_loopsEver mo_newNodes mo_newPairs mo_due mo_newOne mo_newFrom mo_newTo mo_marks mo_drawing o_mo_leftOf o_mo_wayMany o_mo_wayAt mo_bitsNow mo_passages mo_astray mo_loops mo_steps mo_reached mo_others mo_h) := by
  refine ctI_of (cc := cX6_tree) (maxL := 3) (by decide) rfl (Nat.le_of_ble_eq_true rfl) ?_
  intro p e s m below meth c Q A hx hb hml hown hts hK hN hA hret ls hl hP hD hS
  obtain ⟨args, hargs⟩ : ∃ a : Array Value, a = [.ref (ad 15), .int x1, .int x2].toArray := ⟨_, rfl⟩
  rw [← hargs] at hts hret ⊢
  have hown : s.vm.findClass RX6 = some m.cls := hown
  have hl : lv_has ls 3 [(0, .ref (ad 15)), (1, .int x1), (2, .int x2)] := hl
  unfold f_X6_tree at hf
  refine lv_aload_n hx hb dX6_tree_0 rfl (lv_at hl 0 rfl) ?_
  refine lv_iload_n hx hb dX6_tree_1 rfl (lv_at hl 1 rfl) ?_
  have F : Fr D A _ (wdM cI cJ ad mo_pageLength mo_page mo_nodes mo_links mo_fromOf mo_toOf mo_width mo_drawn mo_seed mo_bundleOf mo_netsRead mo_sent mo_passagesEver mo_astrayEver mo_loopsEver mo_newNodes mo_newPairs mo_due mo_newOne mo_newFrom mo_newTo mo_marks mo_drawing mo_leftOf mo_wayMany mo_wayAt mo_bitsNow mo_passages mo_astray mo_loops mo_steps mo_reached mo_others mo_h) (wdM cI cJ ad mo_pageLength mo_page mo_nodes mo_links mo_fromOf mo_toOf mo_width mo_drawn mo_seed mo_bundleOf mo_netsRead mo_sent mo_passagesEver mo_astrayEver mo_loopsEver mo_newNodes mo_newPairs mo_due mo_newOne mo_newFrom mo_newTo mo_marks mo_drawing mo_leftOf mo_wayMany mo_wayAt mo_bitsNow mo_passages mo_astray mo_loops mo_steps mo_reached mo_others mo_h) (wdM cI cJ ad mo_pageLength mo_page mo_nodes mo_links mo_fromOf mo_toOf mo_width mo_drawn mo_seed mo_bundleOf mo_netsRead mo_sent mo_passagesEver mo_astrayEver mo_loopsEver mo_newNodes mo_newPairs mo_due mo_newOne mo_newFrom mo_newTo mo_marks mo_drawing mo_leftOf mo_wayMany mo_wayAt mo_bitsNow mo_passages mo_astray mo_loops mo_steps mo_reached mo_others mo_h) := fr_self hP hD hS hA
  refine kZ F hS (rV (q := (RX6, TX6, 34)) (As := [.int x1]) (rest := []) ⟨hx, hb, hml, hown, hts⟩ hK hN F (c_X6_isNode l D cI cJ ad _ (mo_pageLength := mo_pageLength) (mo_page := mo_page) (mo_nodes := mo_nodes) (mo_links := mo_links) (mo_fromOf := mo_fromOf) (mo_toOf := mo_toOf) (mo_width := mo_width) (mo_drawn := mo_drawn) (mo_seed := mo_seed) (mo_bundleOf := mo_bundleOf) (mo_netsRead := mo_netsRead) (mo_sent := mo_sent) (mo_passagesEver := mo_passagesEver) (mo_astrayEver := mo_astrayEver) (mo_loopsEver := mo_loopsEver) (mo_newNodes := mo_newNodes) (mo_newPairs := mo_newPairs) (mo_due := mo_due) (mo_newOne := mo_newOne) (mo_newFrom := mo_newFrom) (mo_newTo := mo_newTo) (mo_marks := mo_marks) (mo_drawing := mo_drawing) (mo_leftOf := mo_leftOf) (mo_wayMany := mo_wayMany) (mo_wayAt := mo_wayAt) (mo_bitsNow := mo_bitsNow) (mo_passages := mo_passages) (mo_astray := mo_astray) (mo_loops := mo_loops) (mo_steps := mo_steps) (mo_reached := mo_reached) (mo_others := mo_others) (mo_h := mo_h) x1 (o_res := (f_X6_isNode mo_nodes x1)) rfl) (cwV 1 hts gX6_tree_X6_isNode rfl rfl rfl (by decide +kernel) ⟨Nat.le_of_ble_eq_true rfl, Nat.le_of_ble_eq_true rfl⟩) (ci := 6) rfl rfl rfl hl.1 rfl (Nat.le_of_ble_eq_true rfl) dX6_tree_2 ⟨Nat.zero_le _, Nat.zero_le _⟩) (fun H locs hb1 hP hD hS => ?_)
  refine lv_if_ne (tgt := 12) hx hb dX6_tree_5 (by decide) (fun c2 => ?_) (fun c2 => ?_)
  · have hf := oo_f hf c2
    refine lv_aload_n hx hb dX6_tree_12 rfl (lv_at hl 0 rfl) ?_
    refine lv_iload_n hx hb dX6_tree_13 rfl (lv_at hl 2 rfl) ?_
    have F : Fr D A _ (wdM cI cJ ad mo_pageLength mo_page mo_nodes mo_links mo_fromOf mo_toOf mo_width mo_drawn mo_seed mo_bundleOf mo_netsRead mo_sent mo_passagesEver mo_astrayEver mo_loopsEver mo_newNodes mo_newPairs mo_due mo_newOne mo_newFrom mo_newTo mo_marks mo_drawing mo_leftOf mo_wayMany mo_wayAt mo_bitsNow mo_passages mo_astray mo_loops mo_steps mo_reached mo_others mo_h) (wdM cI cJ ad mo_pageLength mo_page mo_nodes mo_links mo_fromOf mo_toOf mo_width mo_drawn mo_seed mo_bundleOf mo_netsRead mo_sent mo_passagesEver mo_astrayEver mo_loopsEver mo_newNodes mo_newPairs mo_due mo_newOne mo_newFrom mo_newTo mo_marks mo_drawing mo_leftOf mo_wayMany mo_wayAt mo_bitsNow mo_passages mo_astray mo_loops mo_steps mo_reached mo_others mo_h) (wdM cI cJ ad mo_pageLength mo_page mo_nodes mo_links mo_fromOf mo_toOf mo_width mo_drawn mo_seed mo_bundleOf mo_netsRead mo_sent mo_passagesEver mo_astrayEver mo_loopsEver mo_newNodes mo_newPairs mo_due mo_newOne mo_newFrom mo_newTo mo_marks mo_drawing mo_leftOf mo_wayMany mo_wayAt mo_bitsNow mo_passages mo_astray mo_loops mo_steps mo_reached mo_others mo_h) := fr_self hP hD hS hA
    refine kZ F hS (rV (q := (RX6, TX6, 34)) (As := [.int x2]) (rest := []) ⟨hx, hb, hml, hown, hts⟩ hK hN F (c_X6_isSet l D cI cJ ad _ (mo_pageLength := mo_pageLength) (mo_page := mo_page) (mo_nodes := mo_nodes) (mo_links := mo_links) (mo_fromOf := mo_fromOf) (mo_toOf := mo_toOf) (mo_width := mo_width) (mo_drawn := mo_drawn) (mo_seed := mo_seed) (mo_bundleOf := mo_bundleOf) (mo_netsRead := mo_netsRead) (mo_sent := mo_sent) (mo_passagesEver := mo_passagesEver) (mo_astrayEver := mo_astrayEver) (mo_loopsEver := mo_loopsEver) (mo_newNodes := mo_newNodes) (mo_newPairs := mo_newPairs) (mo_due := mo_due) (mo_newOne := mo_newOne) (mo_newFrom := mo_newFrom) (mo_newTo := mo_newTo) (mo_marks := mo_marks) (mo_drawing := mo_drawing) (mo_leftOf := mo_leftOf) (mo_wayMany := mo_wayMany) (mo_wayAt := mo_wayAt) (mo_bitsNow := mo_bitsNow) (mo_passages := mo_passages) (mo_astray := mo_astray) (mo_loops := mo_loops) (mo_steps := mo_steps) (mo_reached := mo_reached) (mo_others := mo_others) (mo_h := mo_h) x2 (o_res := (f_X6_isSet mo_nodes x2)) rfl) (cwV 1 hts gX6_tree_X6_isSet rfl rfl rfl (by decide +kernel) ⟨Nat.le_of_ble_eq_true rfl, Nat.le_of_ble_eq_true rfl⟩) (ci := 6) rfl rfl rfl hl.1 rfl (Nat.le_of_ble_eq_true rfl) dX6_tree_14 ⟨Nat.zero_le _, Nat.zero_le _⟩) (fun H locs hb3 hP hD hS => ?_)
    refine lv_if_eq (tgt := 29) hx hb dX6_tree_17 (by decide) (fun c4 => ?_) (fun c4 => ?_)
    · have hf := oo_t hf c4
      refine lv_sipush (v := (-1002 : Int32)) hx hb dX6_tree_29 (by decide) ?_
      cases hf
      exact hret _ _ _ _ dX6_tree_32 hP hD hS
    · have hf := oo_f hf c4
      refine lv_aload_n hx hb dX6_tree_20 rfl (lv_at hl 0 rfl) ?_
      refine lv_iload_n hx hb dX6_tree_21 rfl (lv_at hl 1 rfl) ?_
      refine lv_iload_n hx hb dX6_tree_22 rfl (lv_at hl 2 rfl) ?_
      obtain ⟨⟨r6, mo_leftOf_7, mo_wayMany_8, mo_wayAt_9⟩, h5, hf⟩ := oo_b hf
      try dsimp only at hf
      have F : Fr D A _ (wdM cI cJ ad mo_pageLength mo_page mo_nodes mo_links mo_fromOf mo_toOf mo_width mo_drawn mo_seed mo_bundleOf mo_netsRead mo_sent mo_passagesEver mo_astrayEver mo_loopsEver mo_newNodes mo_newPairs mo_due mo_newOne mo_newFrom mo_newTo mo_marks mo_drawing mo_leftOf mo_wayMany mo_wayAt mo_bitsNow mo_passages mo_astray mo_loops mo_steps mo_reached mo_others mo_h) (wdM cI cJ ad mo_pageLength mo_page mo_nodes mo_links mo_fromOf mo_toOf mo_width mo_drawn mo_seed mo_bundleOf mo_netsRead mo_sent mo_passagesEver mo_astrayEver mo_loopsEver mo_newNodes mo_newPairs mo_due mo_newOne mo_newFrom mo_newTo mo_marks mo_drawing mo_leftOf_7 mo_wayMany_8 mo_wayAt_9 mo_bitsNow mo_passages mo_astray mo_loops mo_steps mo_reached mo_others mo_h) (wdM cI cJ ad mo_pageLength mo_page mo_nodes mo_links mo_fromOf mo_toOf mo_width mo_drawn mo_seed mo_bundleOf mo_netsRead mo_sent mo_passagesEver mo_astrayEver mo_loopsEver mo_newNodes mo_newPairs mo_due mo_newOne mo_newFrom mo_newTo mo_marks mo_drawing mo_leftOf_7 mo_wayMany_8 mo_wayAt_9 mo_bitsNow mo_passages mo_astray mo_loops mo_steps mo_reached mo_others mo_h) := fr_self hP hD hS hA
      refine kI F hS (rV (q := (RX6, TX6, 34)) (As := [.int x1, .int x2]) (rest := []) ⟨hx, hb, hml, hown, hts⟩ hK hN F (c_X6_treeOf l D cI cJ ad _ (mo_pageLength := mo_pageLength) (mo_page := mo_page) (mo_nodes := mo_nodes) (mo_links := mo_links) (mo_fromOf := mo_fromOf) (mo_toOf := mo_toOf) (mo_width := mo_width) (mo_drawn := mo_drawn) (mo_seed := mo_seed) (mo_bundleOf := mo_bundleOf) (mo_netsRead := mo_netsRead) (mo_sent := mo_sent) (mo_passagesEver := mo_passagesEver) (mo_astrayEver := mo_astrayEver) (mo_loopsEver := mo_loopsEver) (mo_newNodes := mo_newNodes) (mo_newPairs := mo_newPairs) (mo_due := mo_due) (mo_newOne := mo_newOne) (mo_newFrom := mo_newFrom) (mo_newTo := mo_newTo) (mo_marks := mo_marks) (mo_drawing := mo_drawing) (mo_leftOf := mo_leftOf) (mo_wayMany := mo_wayMany) (mo_wayAt := mo_wayAt) (mo_bitsNow := mo_bitsNow) (mo_passages := mo_passages) (mo_astray := mo_astray) (mo_loops := mo_loops) (mo_steps := mo_steps) (mo_reached := mo_reached) (mo_others := mo_others) (mo_h := mo_h) x1 x2 (o_res := r6) (o_mo_leftOf := mo_leftOf_7) (o_mo_wayMany := mo_wayMany_8) (o_mo_wayAt := mo_wayAt_9) h5) (cwV 2 hts gX6_tree_X6_treeOf rfl rfl rfl (by decide +kernel) ⟨Nat.le_of_ble_eq_true rfl, Nat.le_of_ble_eq_true rfl⟩) (ci := 6) rfl rfl rfl hl.1 rfl (Nat.le_of_ble_eq_true rfl) dX6_tree_23 ⟨Nat.zero_le _, Nat.zero_le _⟩) (fun H locs hP hD hS => ?_)
      refine lv_goto (tgt := 32) hx hb dX6_tree_26 (by decide) ?_
      cases hf
      exact hret _ _ _ _ dX6_tree_32 hP hD hS
  · have hf := oo_t hf c2
    refine lv_sipush (v := (-1001 : Int32)) hx hb dX6_tree_8 (by decide) ?_
    cases hf
    exact hret _ _ _ _ dX6_tree_11 hP hD hS
