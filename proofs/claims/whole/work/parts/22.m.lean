def f_X6_ones_L4 (x0 : Int64) : Nat → Int32 → Int32 → Option (Int32)
  | 0, _, _ => none
  | n + 1, x2_a4, x3_a4 =>
      if (40 : Int32) ≤ x3_a4 then
        some x2_a4
      else
        f_X6_ones_L4 x0 n (x2_a4 + (((x0 >>> ((x3_a4).toInt64 &&& 63)) &&& (1 : Int64))).toInt32) (x3_a4 + (1 : Int32))
theorem f_X6_ones_L4_s (x0 : Int64) (n : Nat) (x2_a4 : Int32) (x3_a4 : Int32) : f_X6_ones_L4 x0 (n + 1) x2_a4 x3_a4 =
      (if (40 : Int32) ≤ x3_a4 then
        some x2_a4
      else
        f_X6_ones_L4 x0 n (x2_a4 + (((x0 >>> ((x3_a4).toInt64 &&& 63)) &&& (1 : Int64))).toInt32) (x3_a4 + (1 : Int32))) := rfl
def f_X6_ones (x0 : Int64) : Option (Int32) :=
  Option.bind (f_X6_ones_L4 x0 100 (0 : Int32) (0 : Int32)) fun x2_o1 =>
  some x2_o1
abbrev rm_X6_ones : Room := { frames := 0, cells := 0, slots := 0, locals := 0 }
set_option maxHeartbeats 4000000 in
set_option maxRecDepth 100000 in
theorem c_X6_ones (l : Launch) (D : va_G) (cI cJ : ClassId) (ad : Nat → Nat) (sz : Nat)  (x0 : Int64) {o_res : Int32} (hf : f_X6_ones x0 = some o_res) : CtI l yX6_ones wsX6_ones rm_X6_ones D cI cJ [.long x0] [] sz o_res [] := by
  refine ctI_of (cc := cX6_ones) (maxL := 4) (by decide) rfl (Nat.le_of_ble_eq_true rfl) ?_
  intro p e s m below meth c Q A hx hb hml hown hts hK hN hA hret ls hl hP hD hS
  obtain ⟨args, hargs⟩ : ∃ a : Array Value, a = [.long x0].toArray := ⟨_, rfl⟩
  rw [← hargs] at hts hret ⊢
  have hown : s.vm.findClass RX6 = some m.cls := hown
  have hl : lv_has ls 4 [(0, .long x0)] := hl
  unfold f_X6_ones at hf
  refine lv_iconst (v := (0 : Int32)) hx hb dX6_ones_0 (by decide) ?_
  refine lv_istore_n (lv' := [(2, .int (0 : Int32)), (0, .long x0)]) hx hb dX6_ones_1 rfl hl (by decide) rfl (fun ls hl => ?_)
  refine lv_iconst (v := (0 : Int32)) hx hb dX6_ones_2 (by decide) ?_
  refine lv_istore_n (lv' := [(3, .int (0 : Int32)), (2, .int (0 : Int32)), (0, .long x0)]) hx hb dX6_ones_3 rfl hl (by decide) rfl (fun ls hl => ?_)
  have lp2 : ∀ (n : Nat) (x2_a4 : Int32) (x3_a4 : Int32) (x2_o1 : Int32), f_X6_ones_L4 x0 n x2_a4 x3_a4 = some x2_o1 → (∀ (H : Heap) (locs : List Loc) (ls : Array Slot), va_P D vwCl [] H → va_D A [] → va_S A s.heap H locs → lv_has ls 4 [(2, .int x2_o1)] → W p l e rm_X6_ones s m args below meth c H locs 0 0 Q (F0 m 25 ls [])) → ∀ (H : Heap) (locs : List Loc) (ls : Array Slot), va_P D vwCl [] H → va_D A [] → va_S A s.heap H locs → lv_has ls 4 [(0, .long x0), (2, .int x2_a4), (3, .int x3_a4)] → W p l e rm_X6_ones s m args below meth c H locs 0 0 Q (F0 m 4 ls []) := by
    intro n
    induction n with
    | zero =>
      intro x2_a4 x3_a4 x2_o1 h0
      exact oo_n h0
    | succ n ih =>
      intro x2_a4 x3_a4 x2_o1 hf kk H locs ls hP hD hS hl
      rw [f_X6_ones_L4_s] at hf
      refine lv_iload_n hx hb dX6_ones_4 rfl (lv_at hl 2 rfl) ?_
      refine lv_bipush (v := (40 : Int32)) hx hb dX6_ones_5 (by decide) ?_
      refine lv_icmp_ge (tgt := 25) hx hb dX6_ones_7 (by decide) (fun c3 => ?_) (fun c3 => ?_)
      · have hf := oo_t hf c3
        cases hf
        exact kk _ _ _ hP hD hS (lv_sub hl [1] rfl)
      · have hf := oo_f hf c3
        refine lv_iload_n hx hb dX6_ones_10 rfl (lv_at hl 1 rfl) ?_
        refine lv_lload_n hx hb dX6_ones_11 rfl (lv_at hl 0 rfl) ?_
        refine lv_iload_n hx hb dX6_ones_12 rfl (lv_at hl 2 rfl) ?_
        refine lv_lshr (v := (x0 >>> ((x3_a4).toInt64 &&& 63))) hx hb dX6_ones_13 rfl ?_
        refine lv_lconst (v := (1 : Int64)) hx hb dX6_ones_14 (by decide) ?_
        refine lv_land hx hb dX6_ones_15 ?_
        refine lv_l2i (v := (((x0 >>> ((x3_a4).toInt64 &&& 63)) &&& (1 : Int64))).toInt32) hx hb dX6_ones_16 rfl ?_
        refine lv_iadd hx hb dX6_ones_17 ?_
        refine lv_istore_n (lv' := [(2, .int (x2_a4 + (((x0 >>> ((x3_a4).toInt64 &&& 63)) &&& (1 : Int64))).toInt32)), (0, .long x0), (3, .int x3_a4)]) hx hb dX6_ones_18 rfl hl (by decide) rfl (fun ls hl => ?_)
        refine lv_iinc (v := (x3_a4 + (1 : Int32))) (lv' := [(3, .int (x3_a4 + (1 : Int32))), (2, .int (x2_a4 + (((x0 >>> ((x3_a4).toInt64 &&& 63)) &&& (1 : Int64))).toInt32)), (0, .long x0)]) hx hb dX6_ones_19 hl (k := 2) rfl rfl (by decide) rfl (fun ls hl => ?_)
        refine lv_goto (tgt := 4) hx hb dX6_ones_22 (by decide) ?_
        exact ih (x2_a4 + (((x0 >>> ((x3_a4).toInt64 &&& 63)) &&& (1 : Int64))).toInt32) (x3_a4 + (1 : Int32)) _ hf kk _ _ _ hP hD hS (lv_sub hl [2, 1, 0] rfl)
  obtain ⟨x2_o1, h4, hf⟩ := oo_b hf
  try dsimp only at hf
  refine lp2  100 (0 : Int32) (0 : Int32) x2_o1 h4 (fun H locs ls hP hD hS hl => ?_) _ _ _ hP hD hS (lv_sub hl [2, 1, 0] rfl)
  refine lv_iload_n hx hb dX6_ones_25 rfl (lv_at hl 0 rfl) ?_
  cases hf
  exact hret _ _ _ _ dX6_ones_26 hP hD hS
def f_X6_isPlace (x0 : Int32) : Int32 :=
  (f_X6_within x0 (0 : Int32) (3 : Int32))
abbrev rm_X6_isPlace : Room := { frames := 1, cells := 0, slots := 0, locals := 22 }
set_option maxHeartbeats 4000000 in
set_option maxRecDepth 100000 in
theorem c_X6_isPlace (l : Launch) (D : va_G) (cI cJ : ClassId) (ad : Nat → Nat) (sz : Nat)  (x0 : Int32) {o_res : Int32} (hf : f_X6_isPlace x0 = o_res) : CtZ l yX6_isPlace wsX6_isPlace rm_X6_isPlace D cI cJ [.int x0] [] sz o_res [] := by
  refine ctZ_of (cc := cX6_isPlace) (maxL := 1) (by decide) rfl (Nat.le_of_ble_eq_true rfl) ?_
  intro p e s m below meth c Q A hx hb hml hown hts hK hN hA hret ls hl hP hD hS
  obtain ⟨args, hargs⟩ : ∃ a : Array Value, a = [.int x0].toArray := ⟨_, rfl⟩
  rw [← hargs] at hts hret ⊢
  have hown : s.vm.findClass RX6 = some m.cls := hown
  have hl : lv_has ls 1 [(0, .int x0)] := hl
  unfold f_X6_isPlace at hf
  refine lv_iload_n hx hb dX6_isPlace_0 rfl (lv_at hl 0 rfl) ?_
  refine lv_iconst (v := (0 : Int32)) hx hb dX6_isPlace_1 (by decide) ?_
  refine lv_iconst (v := (3 : Int32)) hx hb dX6_isPlace_2 (by decide) ?_
  have F : Fr D A _ [] [] [] := fr_nil hP hD hS hA
  refine kZ F hS (rS (As := [.int x0, .int (0 : Int32), .int (3 : Int32)]) (rest := []) ⟨hx, hb, hml, hown, hts⟩ hK hN F (c_X6_within l D cI cJ ad _  x0 (0 : Int32) (3 : Int32) (o_res := (f_X6_within x0 (0 : Int32) (3 : Int32))) rfl) (cwS 3 hts gX6_isPlace_X6_within rfl rfl rfl (by decide +kernel) ⟨Nat.le_of_ble_eq_true rfl, Nat.le_of_ble_eq_true rfl⟩) rfl hl.1 rfl (Nat.le_of_ble_eq_true rfl) dX6_isPlace_3 ⟨Nat.zero_le _, Nat.zero_le _⟩) (fun H locs hb1 hP hD hS => ?_)
  cases hf
  exact hret _ _ _ _ hb1 dX6_isPlace_6 hP hD hS
def f_X6_bind (mo_nodes : Int32) (mo_links : Int32) (mo_fromOf : Nat → Int32) (mo_toOf : Nat → Int32) (mo_bundleOf : Nat → Int32) (mo_leftOf : Nat → Int32) (mo_wayMany : Int32) (mo_wayAt : Nat → Int32) (x1 : Int32) (x2 : Int32) (x3 : Int32) : Option (Int32 × (Nat → Int32) × (Nat → Int32) × Int32 × (Nat → Int32)) :=
  if (f_X6_isPlace x1) = (0 : Int32) then
    some ((-1001 : Int32), mo_bundleOf, mo_leftOf, mo_wayMany, mo_wayAt)
  else
    if (f_X6_isNode mo_nodes x2) = (0 : Int32) then
      some ((-1001 : Int32), mo_bundleOf, mo_leftOf, mo_wayMany, mo_wayAt)
    else
      if (f_X6_isSet mo_nodes x3) = (0 : Int32) then
        some ((-1002 : Int32), mo_bundleOf, mo_leftOf, mo_wayMany, mo_wayAt)
      else
        Option.bind (f_X6_treeOf mo_nodes mo_links mo_fromOf mo_toOf mo_leftOf mo_wayMany mo_wayAt x2 x3) fun (r8, mo_leftOf_9, mo_wayMany_10, mo_wayAt_11) =>
        if r8 = (0 : Int32) then
          some ((-1003 : Int32), mo_bundleOf, mo_leftOf_9, mo_wayMany_10, mo_wayAt_11)
        else
          if x1 < 0 ∨ 4 ≤ (x1).toNatClampNeg then none else
          if (mo_bundleOf (x1).toNatClampNeg) = (0 : Int32) then
            Option.bind (f_X6_ones ((r8).toInt64)) fun r18 =>
            some (r18, (upd mo_bundleOf (x1).toNatClampNeg r8), mo_leftOf_9, mo_wayMany_10, mo_wayAt_11)
          else
            some ((-1004 : Int32), mo_bundleOf, mo_leftOf_9, mo_wayMany_10, mo_wayAt_11)
abbrev rm_X6_bind : Room := { frames := 3, cells := 0, slots := 0, locals := 73 }
set_option maxHeartbeats 4000000 in
set_option maxRecDepth 100000 in
theorem c_X6_bind (l : Launch) (D : va_G) (cI cJ : ClassId) (ad : Nat → Nat) (sz : Nat) {mo_pageLength : Int32} {mo_page : Nat → Int32} {mo_nodes mo_links : Int32} {mo_fromOf mo_toOf : Nat → Int32} {mo_width mo_drawn mo_seed : Int32} {mo_bundleOf : Nat → Int32} {mo_netsRead mo_sent mo_passagesEver mo_astrayEver mo_loopsEver mo_newNodes mo_newPairs mo_due mo_newOne : Int32} {mo_newFrom mo_newTo : Nat → Int32} {mo_marks : Nat → Int64} {mo_drawing : Int64} {mo_leftOf : Nat → Int32} {mo_wayMany : Int32} {mo_wayAt : Nat → Int32} {mo_bitsNow : Int64} {mo_passages mo_astray mo_loops mo_steps mo_reached mo_others : Int32} {mo_h : Int64} (x1 : Int32) (x2 : Int32) (x3 : Int32) {o_res : Int32} {o_mo_bundleOf : Nat → Int32} {o_mo_leftOf : Nat → Int32} {o_mo_wayMany : Int32} {o_mo_wayAt : Nat → Int32} (hf : f_X6_bind mo_nodes mo_links mo_fromOf mo_toOf mo_bundleOf mo_leftOf mo_wayMany mo_wayAt x1 x2 x3 = some (o_res, o_mo_bundleOf, o_mo_leftOf, o_mo_wayMany, o_mo_wayAt)) : CtI l yX6_bind wsX6_bind rm_X6_bind D cI cJ [.ref (ad 15), .int x1, .int x2, .int x3] (wdM cI cJ ad mo_pageLength mo_page mo_nodes mo_links mo_fromOf mo_toOf mo_width mo_drawn mo_seed mo_bundleOf mo_netsRead mo_sent mo_passagesEver mo_astrayEver mo_loopsEver mo_newNodes mo_newPairs mo_due mo_newOne mo_newFrom mo_newTo mo_marks mo_drawing mo_leftOf mo_wayMany mo_wayAt mo_bitsNow mo_passages mo_astray mo_loops mo_steps mo_reached mo_others mo_h) sz o_res (wdM cI cJ ad mo_pageLength mo_page mo_nodes mo_links mo_fromOf mo_toOf mo_width mo_drawn mo_seed o_mo_bundleOf mo_netsRead mo_sent mo_passagesEver mo_astrayEver mo_loopsEver mo_newNodes mo_newPairs mo_due mo_newOne mo_newFrom mo_newTo mo_marks mo_drawing o_mo_leftOf o_mo_wayMany o_mo_wayAt mo_bitsNow mo_passages mo_astray mo_loops mo_steps mo_reached mo_others mo_h) := by
  refine ctI_of (cc := cX6_bind) (maxL := 5) (by decide) rfl (Nat.le_of_ble_eq_true rfl) ?_
  intro p e s m below meth c Q A hx hb hml hown hts hK hN hA hret ls hl hP hD hS
  obtain ⟨args, hargs⟩ : ∃ a : Array Value, a = [.ref (ad 15), .int x1, .int x2, .int x3].toArray := ⟨_, rfl⟩
  rw [← hargs] at hts hret ⊢
  have hown : s.vm.findClass RX6 = some m.cls := hown
  have hl : lv_has ls 5 [(0, .ref (ad 15)), (1, .int x1), (2, .int x2), (3, .int x3)] := hl
  have hin_X6 : ∀ w ∈ wsX60, w ∈ wsX6_bind := fun _ h => List.mem_cons_of_mem _ (List.mem_append_right _ h)
  have fl_29 : (Cond.fieldLink RX6 29 "FoldedWaysModel" "bundleOf" "[I").before args s = true := hat hts 1 rfl
  unfold f_X6_bind at hf
  refine lv_iload_n hx hb dX6_bind_0 rfl (lv_at hl 1 rfl) ?_
  have F : Fr D A _ [] [] (wdM cI cJ ad mo_pageLength mo_page mo_nodes mo_links mo_fromOf mo_toOf mo_width mo_drawn mo_seed mo_bundleOf mo_netsRead mo_sent mo_passagesEver mo_astrayEver mo_loopsEver mo_newNodes mo_newPairs mo_due mo_newOne mo_newFrom mo_newTo mo_marks mo_drawing mo_leftOf mo_wayMany mo_wayAt mo_bitsNow mo_passages mo_astray mo_loops mo_steps mo_reached mo_others mo_h) := fr_nil hP hD hS hA
  refine kZ F hS (rS (As := [.int x1]) (rest := []) ⟨hx, hb, hml, hown, hts⟩ hK hN F (c_X6_isPlace l D cI cJ ad _  x1 (o_res := (f_X6_isPlace x1)) rfl) (cwS 1 hts gX6_bind_X6_isPlace rfl rfl rfl (by decide +kernel) ⟨Nat.le_of_ble_eq_true rfl, Nat.le_of_ble_eq_true rfl⟩) rfl hl.1 rfl (Nat.le_of_ble_eq_true rfl) dX6_bind_1 ⟨Nat.zero_le _, Nat.zero_le _⟩) (fun H locs hb1 hP hD hS => ?_)
  refine lv_if_eq (tgt := 15) hx hb dX6_bind_4 (by decide) (fun c2 => ?_) (fun c2 => ?_)
  · have hf := oo_t hf c2
    refine lv_sipush (v := (-1001 : Int32)) hx hb dX6_bind_15 (by decide) ?_
    cases hf
    exact hret _ _ _ _ dX6_bind_18 hP hD hS
  · have hf := oo_f hf c2
    refine lv_aload_n hx hb dX6_bind_7 rfl (lv_at hl 0 rfl) ?_
    refine lv_iload_n hx hb dX6_bind_8 rfl (lv_at hl 2 rfl) ?_
    have F : Fr D A _ (wdM cI cJ ad mo_pageLength mo_page mo_nodes mo_links mo_fromOf mo_toOf mo_width mo_drawn mo_seed mo_bundleOf mo_netsRead mo_sent mo_passagesEver mo_astrayEver mo_loopsEver mo_newNodes mo_newPairs mo_due mo_newOne mo_newFrom mo_newTo mo_marks mo_drawing mo_leftOf mo_wayMany mo_wayAt mo_bitsNow mo_passages mo_astray mo_loops mo_steps mo_reached mo_others mo_h) (wdM cI cJ ad mo_pageLength mo_page mo_nodes mo_links mo_fromOf mo_toOf mo_width mo_drawn mo_seed mo_bundleOf mo_netsRead mo_sent mo_passagesEver mo_astrayEver mo_loopsEver mo_newNodes mo_newPairs mo_due mo_newOne mo_newFrom mo_newTo mo_marks mo_drawing mo_leftOf mo_wayMany mo_wayAt mo_bitsNow mo_passages mo_astray mo_loops mo_steps mo_reached mo_others mo_h) (wdM cI cJ ad mo_pageLength mo_page mo_nodes mo_links mo_fromOf mo_toOf mo_width mo_drawn mo_seed mo_bundleOf mo_netsRead mo_sent mo_passagesEver mo_astrayEver mo_loopsEver mo_newNodes mo_newPairs mo_due mo_newOne mo_newFrom mo_newTo mo_marks mo_drawing mo_leftOf mo_wayMany mo_wayAt mo_bitsNow mo_passages mo_astray mo_loops mo_steps mo_reached mo_others mo_h) := fr_self hP hD hS hA
    refine kZ F hS (rV (q := (RX6, TX6, 34)) (As := [.int x2]) (rest := []) ⟨hx, hb, hml, hown, hts⟩ hK hN F (c_X6_isNode l D cI cJ ad _ (mo_pageLength := mo_pageLength) (mo_page := mo_page) (mo_nodes := mo_nodes) (mo_links := mo_links) (mo_fromOf := mo_fromOf) (mo_toOf := mo_toOf) (mo_width := mo_width) (mo_drawn := mo_drawn) (mo_seed := mo_seed) (mo_bundleOf := mo_bundleOf) (mo_netsRead := mo_netsRead) (mo_sent := mo_sent) (mo_passagesEver := mo_passagesEver) (mo_astrayEver := mo_astrayEver) (mo_loopsEver := mo_loopsEver) (mo_newNodes := mo_newNodes) (mo_newPairs := mo_newPairs) (mo_due := mo_due) (mo_newOne := mo_newOne) (mo_newFrom := mo_newFrom) (mo_newTo := mo_newTo) (mo_marks := mo_marks) (mo_drawing := mo_drawing) (mo_leftOf := mo_leftOf) (mo_wayMany := mo_wayMany) (mo_wayAt := mo_wayAt) (mo_bitsNow := mo_bitsNow) (mo_passages := mo_passages) (mo_astray := mo_astray) (mo_loops := mo_loops) (mo_steps := mo_steps) (mo_reached := mo_reached) (mo_others := mo_others) (mo_h := mo_h) x2 (o_res := (f_X6_isNode mo_nodes x2)) rfl) (cwV 1 hts gX6_bind_X6_isNode rfl rfl rfl (by decide +kernel) ⟨Nat.le_of_ble_eq_true rfl, Nat.le_of_ble_eq_true rfl⟩) (ci := 6) rfl rfl rfl hl.1 rfl (Nat.le_of_ble_eq_true rfl) dX6_bind_9 ⟨Nat.zero_le _, Nat.zero_le _⟩) (fun H locs hb3 hP hD hS => ?_)
    refine lv_if_ne (tgt := 19) hx hb dX6_bind_12 (by decide) (fun c4 => ?_) (fun c4 => ?_)
    · have hf := oo_f hf c4
      refine lv_aload_n hx hb dX6_bind_19 rfl (lv_at hl 0 rfl) ?_
      refine lv_iload_n hx hb dX6_bind_20 rfl (lv_at hl 3 rfl) ?_
      have F : Fr D A _ (wdM cI cJ ad mo_pageLength mo_page mo_nodes mo_links mo_fromOf mo_toOf mo_width mo_drawn mo_seed mo_bundleOf mo_netsRead mo_sent mo_passagesEver mo_astrayEver mo_loopsEver mo_newNodes mo_newPairs mo_due mo_newOne mo_newFrom mo_newTo mo_marks mo_drawing mo_leftOf mo_wayMany mo_wayAt mo_bitsNow mo_passages mo_astray mo_loops mo_steps mo_reached mo_others mo_h) (wdM cI cJ ad mo_pageLength mo_page mo_nodes mo_links mo_fromOf mo_toOf mo_width mo_drawn mo_seed mo_bundleOf mo_netsRead mo_sent mo_passagesEver mo_astrayEver mo_loopsEver mo_newNodes mo_newPairs mo_due mo_newOne mo_newFrom mo_newTo mo_marks mo_drawing mo_leftOf mo_wayMany mo_wayAt mo_bitsNow mo_passages mo_astray mo_loops mo_steps mo_reached mo_others mo_h) (wdM cI cJ ad mo_pageLength mo_page mo_nodes mo_links mo_fromOf mo_toOf mo_width mo_drawn mo_seed mo_bundleOf mo_netsRead mo_sent mo_passagesEver mo_astrayEver mo_loopsEver mo_newNodes mo_newPairs mo_due mo_newOne mo_newFrom mo_newTo mo_marks mo_drawing mo_leftOf mo_wayMany mo_wayAt mo_bitsNow mo_passages mo_astray mo_loops mo_steps mo_reached mo_others mo_h) := fr_self hP hD hS hA
      refine kZ F hS (rV (q := (RX6, TX6, 34)) (As := [.int x3]) (rest := []) ⟨hx, hb, hml, hown, hts⟩ hK hN F (c_X6_isSet l D cI cJ ad _ (mo_pageLength := mo_pageLength) (mo_page := mo_page) (mo_nodes := mo_nodes) (mo_links := mo_links) (mo_fromOf := mo_fromOf) (mo_toOf := mo_toOf) (mo_width := mo_width) (mo_drawn := mo_drawn) (mo_seed := mo_seed) (mo_bundleOf := mo_bundleOf) (mo_netsRead := mo_netsRead) (mo_sent := mo_sent) (mo_passagesEver := mo_passagesEver) (mo_astrayEver := mo_astrayEver) (mo_loopsEver := mo_loopsEver) (mo_newNodes := mo_newNodes) (mo_newPairs := mo_newPairs) (mo_due := mo_due) (mo_newOne := mo_newOne) (mo_newFrom := mo_newFrom) (mo_newTo := mo_newTo) (mo_marks := mo_marks) (mo_drawing := mo_drawing) (mo_leftOf := mo_leftOf) (mo_wayMany := mo_wayMany) (mo_wayAt := mo_wayAt) (mo_bitsNow := mo_bitsNow) (mo_passages := mo_passages) (mo_astray := mo_astray) (mo_loops := mo_loops) (mo_steps := mo_steps) (mo_reached := mo_reached) (mo_others := mo_others) (mo_h := mo_h) x3 (o_res := (f_X6_isSet mo_nodes x3)) rfl) (cwV 1 hts gX6_bind_X6_isSet rfl rfl rfl (by decide +kernel) ⟨Nat.le_of_ble_eq_true rfl, Nat.le_of_ble_eq_true rfl⟩) (ci := 6) rfl rfl rfl hl.1 rfl (Nat.le_of_ble_eq_true rfl) dX6_bind_21 ⟨Nat.zero_le _, Nat.zero_le _⟩) (fun H locs hb5 hP hD hS => ?_)
      refine lv_if_ne (tgt := 31) hx hb dX6_bind_24 (by decide) (fun c6 => ?_) (fun c6 => ?_)
      · have hf := oo_f hf c6
        refine lv_aload_n hx hb dX6_bind_31 rfl (lv_at hl 0 rfl) ?_
        refine lv_iload_n hx hb dX6_bind_32 rfl (lv_at hl 2 rfl) ?_
        refine lv_iload_n hx hb dX6_bind_33 rfl (lv_at hl 3 rfl) ?_
        obtain ⟨⟨r8, mo_leftOf_9, mo_wayMany_10, mo_wayAt_11⟩, h7, hf⟩ := oo_b hf
        try dsimp only at hf
        have F : Fr D A _ (wdM cI cJ ad mo_pageLength mo_page mo_nodes mo_links mo_fromOf mo_toOf mo_width mo_drawn mo_seed mo_bundleOf mo_netsRead mo_sent mo_passagesEver mo_astrayEver mo_loopsEver mo_newNodes mo_newPairs mo_due mo_newOne mo_newFrom mo_newTo mo_marks mo_drawing mo_leftOf mo_wayMany mo_wayAt mo_bitsNow mo_passages mo_astray mo_loops mo_steps mo_reached mo_others mo_h) (wdM cI cJ ad mo_pageLength mo_page mo_nodes mo_links mo_fromOf mo_toOf mo_width mo_drawn mo_seed mo_bundleOf mo_netsRead mo_sent mo_passagesEver mo_astrayEver mo_loopsEver mo_newNodes mo_newPairs mo_due mo_newOne mo_newFrom mo_newTo mo_marks mo_drawing mo_leftOf_9 mo_wayMany_10 mo_wayAt_11 mo_bitsNow mo_passages mo_astray mo_loops mo_steps mo_reached mo_others mo_h) (wdM cI cJ ad mo_pageLength mo_page mo_nodes mo_links mo_fromOf mo_toOf mo_width mo_drawn mo_seed mo_bundleOf mo_netsRead mo_sent mo_passagesEver mo_astrayEver mo_loopsEver mo_newNodes mo_newPairs mo_due mo_newOne mo_newFrom mo_newTo mo_marks mo_drawing mo_leftOf_9 mo_wayMany_10 mo_wayAt_11 mo_bitsNow mo_passages mo_astray mo_loops mo_steps mo_reached mo_others mo_h) := fr_self hP hD hS hA
        refine kI F hS (rV (q := (RX6, TX6, 34)) (As := [.int x2, .int x3]) (rest := []) ⟨hx, hb, hml, hown, hts⟩ hK hN F (c_X6_treeOf l D cI cJ ad _ (mo_pageLength := mo_pageLength) (mo_page := mo_page) (mo_nodes := mo_nodes) (mo_links := mo_links) (mo_fromOf := mo_fromOf) (mo_toOf := mo_toOf) (mo_width := mo_width) (mo_drawn := mo_drawn) (mo_seed := mo_seed) (mo_bundleOf := mo_bundleOf) (mo_netsRead := mo_netsRead) (mo_sent := mo_sent) (mo_passagesEver := mo_passagesEver) (mo_astrayEver := mo_astrayEver) (mo_loopsEver := mo_loopsEver) (mo_newNodes := mo_newNodes) (mo_newPairs := mo_newPairs) (mo_due := mo_due) (mo_newOne := mo_newOne) (mo_newFrom := mo_newFrom) (mo_newTo := mo_newTo) (mo_marks := mo_marks) (mo_drawing := mo_drawing) (mo_leftOf := mo_leftOf) (mo_wayMany := mo_wayMany) (mo_wayAt := mo_wayAt) (mo_bitsNow := mo_bitsNow) (mo_passages := mo_passages) (mo_astray := mo_astray) (mo_loops := mo_loops) (mo_steps := mo_steps) (mo_reached := mo_reached) (mo_others := mo_others) (mo_h := mo_h) x2 x3 (o_res := r8) (o_mo_leftOf := mo_leftOf_9) (o_mo_wayMany := mo_wayMany_10) (o_mo_wayAt := mo_wayAt_11) h7) (cwV 2 hts gX6_bind_X6_treeOf rfl rfl rfl (by decide +kernel) ⟨Nat.le_of_ble_eq_true rfl, Nat.le_of_ble_eq_true rfl⟩) (ci := 6) rfl rfl rfl hl.1 rfl (Nat.le_of_ble_eq_true rfl) dX6_bind_34 ⟨Nat.zero_le _, Nat.zero_le _⟩) (fun H locs hP hD hS => ?_)
        refine lv_istore (lv' := [(4, .int r8), (0, .ref (ad 15)), (1, .int x1), (2, .int x2), (3, .int x3)]) hx hb dX6_bind_37 hl (by decide) rfl (fun ls hl => ?_)
        refine lv_iload hx hb dX6_bind_39 (lv_at hl 0 rfl) ?_
        refine lv_if_ne (tgt := 48) hx hb dX6_bind_41 (by decide) (fun c13 => ?_) (fun c13 => ?_)
        · have hf := oo_f hf c13
          refine lv_aload_n hx hb dX6_bind_48 rfl (lv_at hl 1 rfl) ?_
          refine va_get (ci := 6) (v := .ref (ad 19)) (C := RX6) (T := TX6) (N := 34) hx hb hts hin_X6 hown hK hP 0 rfl rfl 9 (by decide) fl_29 (fun _ h9 => h9) rfl dX6_bind_49 ?_
          refine lv_iload_n hx hb dX6_bind_52 rfl (lv_at hl 2 rfl) ?_
          obtain ⟨g14, hf⟩ := oo_g hf
          refine va_iald hx hb hK hP 4 0 rfl rfl g14 dX6_bind_53 ?_
          refine lv_if_eq (tgt := 61) hx hb dX6_bind_54 (by decide) (fun c15 => ?_) (fun c15 => ?_)
          · have hf := oo_t hf c15
            refine lv_aload_n hx hb dX6_bind_61 rfl (lv_at hl 1 rfl) ?_
            refine va_get (ci := 6) (v := .ref (ad 19)) (C := RX6) (T := TX6) (N := 34) hx hb hts hin_X6 hown hK hP 0 rfl rfl 9 (by decide) fl_29 (fun _ h9 => h9) rfl dX6_bind_62 ?_
            refine lv_iload_n hx hb dX6_bind_65 rfl (lv_at hl 2 rfl) ?_
            refine lv_iload hx hb dX6_bind_66 (lv_at hl 0 rfl) ?_
            refine va_iast hx hb hK hP hD hS 4 0 rfl rfl g14 dX6_bind_68 (fun H locs hP hD hS => ?_)
            have hP : va_P D vwCl (wdM cI cJ ad mo_pageLength mo_page mo_nodes mo_links mo_fromOf mo_toOf mo_width mo_drawn mo_seed (upd mo_bundleOf (x1).toNatClampNeg r8) mo_netsRead mo_sent mo_passagesEver mo_astrayEver mo_loopsEver mo_newNodes mo_newPairs mo_due mo_newOne mo_newFrom mo_newTo mo_marks mo_drawing mo_leftOf_9 mo_wayMany_10 mo_wayAt_11 mo_bitsNow mo_passages mo_astray mo_loops mo_steps mo_reached mo_others mo_h) H := hP
            have hD : va_D A (wdM cI cJ ad mo_pageLength mo_page mo_nodes mo_links mo_fromOf mo_toOf mo_width mo_drawn mo_seed (upd mo_bundleOf (x1).toNatClampNeg r8) mo_netsRead mo_sent mo_passagesEver mo_astrayEver mo_loopsEver mo_newNodes mo_newPairs mo_due mo_newOne mo_newFrom mo_newTo mo_marks mo_drawing mo_leftOf_9 mo_wayMany_10 mo_wayAt_11 mo_bitsNow mo_passages mo_astray mo_loops mo_steps mo_reached mo_others mo_h) := hD
            refine lv_iload hx hb dX6_bind_69 (lv_at hl 0 rfl) ?_
            refine lv_i2l (v := (r8).toInt64) hx hb dX6_bind_71 rfl ?_
            obtain ⟨r18, h17, hf⟩ := oo_b hf
            try dsimp only at hf
            have F : Fr D A _ [] [] (wdM cI cJ ad mo_pageLength mo_page mo_nodes mo_links mo_fromOf mo_toOf mo_width mo_drawn mo_seed (upd mo_bundleOf (x1).toNatClampNeg r8) mo_netsRead mo_sent mo_passagesEver mo_astrayEver mo_loopsEver mo_newNodes mo_newPairs mo_due mo_newOne mo_newFrom mo_newTo mo_marks mo_drawing mo_leftOf_9 mo_wayMany_10 mo_wayAt_11 mo_bitsNow mo_passages mo_astray mo_loops mo_steps mo_reached mo_others mo_h) := fr_nil hP hD hS hA
            refine kI F hS (rS (As := [.long ((r8).toInt64)]) (rest := []) ⟨hx, hb, hml, hown, hts⟩ hK hN F (c_X6_ones l D cI cJ ad _  ((r8).toInt64) (o_res := r18) h17) (cwS 1 hts gX6_bind_X6_ones rfl rfl rfl (by decide +kernel) ⟨Nat.le_of_ble_eq_true rfl, Nat.le_of_ble_eq_true rfl⟩) rfl hl.1 rfl (Nat.le_of_ble_eq_true rfl) dX6_bind_72 ⟨Nat.zero_le _, Nat.zero_le _⟩) (fun H locs hP hD hS => ?_)
            cases hf
            exact hret _ _ _ _ dX6_bind_75 hP hD hS
          · have hf := oo_f hf c15
            refine lv_sipush (v := (-1004 : Int32)) hx hb dX6_bind_57 (by decide) ?_
            cases hf
            exact hret _ _ _ _ dX6_bind_60 hP hD hS
        · have hf := oo_t hf c13
          refine lv_sipush (v := (-1003 : Int32)) hx hb dX6_bind_44 (by decide) ?_
          cases hf
          exact hret _ _ _ _ dX6_bind_47 hP hD hS
      · have hf := oo_t hf c6
        refine lv_sipush (v := (-1002 : Int32)) hx hb dX6_bind_27 (by decide) ?_
        cases hf
        exact hret _ _ _ _ dX6_bind_30 hP hD hS
    · have hf := oo_t hf c4
      refine lv_sipush (v := (-1001 : Int32)) hx hb dX6_bind_15 (by decide) ?_
      cases hf
      exact hret _ _ _ _ dX6_bind_18 hP hD hS
def f_X6_loosen (mo_bundleOf : Nat → Int32) (x1 : Int32) : Option (Int32 × (Nat → Int32)) :=
  if (f_X6_isPlace x1) = (0 : Int32) then
    some ((-1001 : Int32), mo_bundleOf)
  else
    if x1 < 0 ∨ 4 ≤ (x1).toNatClampNeg then none else
    if (mo_bundleOf (x1).toNatClampNeg) = (0 : Int32) then
      some ((-1003 : Int32), mo_bundleOf)
    else
      some ((mo_bundleOf (x1).toNatClampNeg), (upd mo_bundleOf (x1).toNatClampNeg (0 : Int32)))
abbrev rm_X6_loosen : Room := { frames := 2, cells := 0, slots := 0, locals := 42 }
set_option maxHeartbeats 4000000 in
set_option maxRecDepth 100000 in
theorem c_X6_loosen (l : Launch) (D : va_G) (cI cJ : ClassId) (ad : Nat → Nat) (sz : Nat) {mo_pageLength : Int32} {mo_page : Nat → Int32} {mo_nodes mo_links : Int32} {mo_fromOf mo_toOf : Nat → Int32} {mo_width mo_drawn mo_seed : Int32} {mo_bundleOf : Nat → Int32} {mo_netsRead mo_sent mo_passagesEver mo_astrayEver mo_loopsEver mo_newNodes mo_newPairs mo_due mo_newOne : Int32} {mo_newFrom mo_newTo : Nat → Int32} {mo_marks : Nat → Int64} {mo_drawing : Int64} {mo_leftOf : Nat → Int32} {mo_wayMany : Int32} {mo_wayAt : Nat → Int32} {mo_bitsNow : Int64} {mo_passages mo_astray mo_loops mo_steps mo_reached mo_others : Int32} {mo_h : Int64} (x1 : Int32) {o_res : Int32} {o_mo_bundleOf : Nat → Int32} (hf : f_X6_loosen mo_bundleOf x1 = some (o_res, o_mo_bundleOf)) : CtI l yX6_loosen wsX6_loosen rm_X6_loosen D cI cJ [.ref (ad 15), .int x1] (wdM cI cJ ad mo_pageLength mo_page mo_nodes mo_links mo_fromOf mo_toOf mo_width mo_drawn mo_seed mo_bundleOf mo_netsRead mo_sent mo_passagesEver mo_astrayEver mo_loopsEver mo_newNodes mo_newPairs mo_due mo_newOne mo_newFrom mo_newTo mo_marks mo_drawing mo_leftOf mo_wayMany mo_wayAt mo_bitsNow mo_passages mo_astray mo_loops mo_steps mo_reached mo_others mo_h) sz o_res (wdM cI cJ ad mo_pageLength mo_page mo_nodes mo_links mo_fromOf mo_toOf mo_width mo_drawn mo_seed o_mo_bundleOf mo_netsRead mo_sent mo_passagesEver mo_astrayEver mo_loopsEver mo_newNodes mo_newPairs mo_due mo_newOne mo_newFrom mo_newTo mo_marks mo_drawing mo_leftOf mo_wayMany mo_wayAt mo_bitsNow mo_passages mo_astray mo_loops mo_steps mo_reached mo_others mo_h) := by
  refine ctI_of (cc := cX6_loosen) (maxL := 3) (by decide) rfl (Nat.le_of_ble_eq_true rfl) ?_
  intro p e s m below meth c Q A hx hb hml hown hts hK hN hA hret ls hl hP hD hS
  obtain ⟨args, hargs⟩ : ∃ a : Array Value, a = [.ref (ad 15), .int x1].toArray := ⟨_, rfl⟩
  rw [← hargs] at hts hret ⊢
  have hown : s.vm.findClass RX6 = some m.cls := hown
  have hl : lv_has ls 3 [(0, .ref (ad 15)), (1, .int x1)] := hl
  have hin_X6 : ∀ w ∈ wsX60, w ∈ wsX6_loosen := fun _ h => List.mem_cons_of_mem _ (List.mem_append_right _ h)
  have fl_29 : (Cond.fieldLink RX6 29 "FoldedWaysModel" "bundleOf" "[I").before args s = true := hat hts 1 rfl
  unfold f_X6_loosen at hf
  refine lv_iload_n hx hb dX6_loosen_0 rfl (lv_at hl 1 rfl) ?_
  have F : Fr D A _ [] [] (wdM cI cJ ad mo_pageLength mo_page mo_nodes mo_links mo_fromOf mo_toOf mo_width mo_drawn mo_seed mo_bundleOf mo_netsRead mo_sent mo_passagesEver mo_astrayEver mo_loopsEver mo_newNodes mo_newPairs mo_due mo_newOne mo_newFrom mo_newTo mo_marks mo_drawing mo_leftOf mo_wayMany mo_wayAt mo_bitsNow mo_passages mo_astray mo_loops mo_steps mo_reached mo_others mo_h) := fr_nil hP hD hS hA
  refine kZ F hS (rS (As := [.int x1]) (rest := []) ⟨hx, hb, hml, hown, hts⟩ hK hN F (c_X6_isPlace l D cI cJ ad _  x1 (o_res := (f_X6_isPlace x1)) rfl) (cwS 1 hts gX6_loosen_X6_isPlace rfl rfl rfl (by decide +kernel) ⟨Nat.le_of_ble_eq_true rfl, Nat.le_of_ble_eq_true rfl⟩) rfl hl.1 rfl (Nat.le_of_ble_eq_true rfl) dX6_loosen_1 ⟨Nat.zero_le _, Nat.zero_le _⟩) (fun H locs hb1 hP hD hS => ?_)
  refine lv_if_ne (tgt := 11) hx hb dX6_loosen_4 (by decide) (fun c2 => ?_) (fun c2 => ?_)
  · have hf := oo_f hf c2
    refine lv_aload_n hx hb dX6_loosen_11 rfl (lv_at hl 0 rfl) ?_
    refine va_get (ci := 6) (v := .ref (ad 19)) (C := RX6) (T := TX6) (N := 34) hx hb hts hin_X6 hown hK hP 0 rfl rfl 9 (by decide) fl_29 (fun _ h9 => h9) rfl dX6_loosen_12 ?_
    refine lv_iload_n hx hb dX6_loosen_15 rfl (lv_at hl 1 rfl) ?_
    obtain ⟨g3, hf⟩ := oo_g hf
    refine va_iald hx hb hK hP 4 0 rfl rfl g3 dX6_loosen_16 ?_
    refine lv_if_ne (tgt := 24) hx hb dX6_loosen_17 (by decide) (fun c4 => ?_) (fun c4 => ?_)
    · have hf := oo_f hf c4
      refine lv_aload_n hx hb dX6_loosen_24 rfl (lv_at hl 0 rfl) ?_
      refine va_get (ci := 6) (v := .ref (ad 19)) (C := RX6) (T := TX6) (N := 34) hx hb hts hin_X6 hown hK hP 0 rfl rfl 9 (by decide) fl_29 (fun _ h9 => h9) rfl dX6_loosen_25 ?_
      refine lv_iload_n hx hb dX6_loosen_28 rfl (lv_at hl 1 rfl) ?_
      refine va_iald hx hb hK hP 4 0 rfl rfl g3 dX6_loosen_29 ?_
      refine lv_istore_n (lv' := [(2, .int (mo_bundleOf (x1).toNatClampNeg)), (0, .ref (ad 15)), (1, .int x1)]) hx hb dX6_loosen_30 rfl hl (by decide) rfl (fun ls hl => ?_)
      refine lv_aload_n hx hb dX6_loosen_31 rfl (lv_at hl 1 rfl) ?_
      refine va_get (ci := 6) (v := .ref (ad 19)) (C := RX6) (T := TX6) (N := 34) hx hb hts hin_X6 hown hK hP 0 rfl rfl 9 (by decide) fl_29 (fun _ h9 => h9) rfl dX6_loosen_32 ?_
      refine lv_iload_n hx hb dX6_loosen_35 rfl (lv_at hl 2 rfl) ?_
      refine lv_iconst (v := (0 : Int32)) hx hb dX6_loosen_36 (by decide) ?_
      refine va_iast hx hb hK hP hD hS 4 0 rfl rfl g3 dX6_loosen_37 (fun H locs hP hD hS => ?_)
      have hP : va_P D vwCl (wdM cI cJ ad mo_pageLength mo_page mo_nodes mo_links mo_fromOf mo_toOf mo_width mo_drawn mo_seed (upd mo_bundleOf (x1).toNatClampNeg (0 : Int32)) mo_netsRead mo_sent mo_passagesEver mo_astrayEver mo_loopsEver mo_newNodes mo_newPairs mo_due mo_newOne mo_newFrom mo_newTo mo_marks mo_drawing mo_leftOf mo_wayMany mo_wayAt mo_bitsNow mo_passages mo_astray mo_loops mo_steps mo_reached mo_others mo_h) H := hP
      have hD : va_D A (wdM cI cJ ad mo_pageLength mo_page mo_nodes mo_links mo_fromOf mo_toOf mo_width mo_drawn mo_seed (upd mo_bundleOf (x1).toNatClampNeg (0 : Int32)) mo_netsRead mo_sent mo_passagesEver mo_astrayEver mo_loopsEver mo_newNodes mo_newPairs mo_due mo_newOne mo_newFrom mo_newTo mo_marks mo_drawing mo_leftOf mo_wayMany mo_wayAt mo_bitsNow mo_passages mo_astray mo_loops mo_steps mo_reached mo_others mo_h) := hD
      refine lv_iload_n hx hb dX6_loosen_38 rfl (lv_at hl 0 rfl) ?_
      cases hf
      exact hret _ _ _ _ dX6_loosen_39 hP hD hS
    · have hf := oo_t hf c4
      refine lv_sipush (v := (-1003 : Int32)) hx hb dX6_loosen_20 (by decide) ?_
      cases hf
      exact hret _ _ _ _ dX6_loosen_23 hP hD hS
  · have hf := oo_t hf c2
    refine lv_sipush (v := (-1001 : Int32)) hx hb dX6_loosen_7 (by decide) ?_
    cases hf
    exact hret _ _ _ _ dX6_loosen_10 hP hD hS
def f_X6_bound (mo_bundleOf : Nat → Int32) (mo_marks : Nat → Int64) (x1 : Int32) (x2 : Int32) : Option (Int64) :=
  if (f_X6_isPlace x1) = (0 : Int32) then
    some (-1001 : Int64)
  else
    if x1 < 0 ∨ 4 ≤ (x1).toNatClampNeg then none else
    if (mo_bundleOf (x1).toNatClampNeg) = (0 : Int32) then
      some (-1001 : Int64)
    else
      if (f_X6_isVariant x2) = (0 : Int32) then
        some (-1002 : Int64)
      else
        if ((((20 : Int32) * x2) + (16 : Int32)) + x1) < 0 ∨ 60 ≤ (((((20 : Int32) * x2) + (16 : Int32)) + x1)).toNatClampNeg then none else
        some (mo_marks (((((20 : Int32) * x2) + (16 : Int32)) + x1)).toNatClampNeg)
abbrev rm_X6_bound : Room := { frames := 2, cells := 0, slots := 0, locals := 42 }
set_option maxHeartbeats 4000000 in
set_option maxRecDepth 100000 in
theorem c_X6_bound (l : Launch) (D : va_G) (cI cJ : ClassId) (ad : Nat → Nat) (sz : Nat) {mo_pageLength : Int32} {mo_page : Nat → Int32} {mo_nodes mo_links : Int32} {mo_fromOf mo_toOf : Nat → Int32} {mo_width mo_drawn mo_seed : Int32} {mo_bundleOf : Nat → Int32} {mo_netsRead mo_sent mo_passagesEver mo_astrayEver mo_loopsEver mo_newNodes mo_newPairs mo_due mo_newOne : Int32} {mo_newFrom mo_newTo : Nat → Int32} {mo_marks : Nat → Int64} {mo_drawing : Int64} {mo_leftOf : Nat → Int32} {mo_wayMany : Int32} {mo_wayAt : Nat → Int32} {mo_bitsNow : Int64} {mo_passages mo_astray mo_loops mo_steps mo_reached mo_others : Int32} {mo_h : Int64} (x1 : Int32) (x2 : Int32) {o_res : Int64} (hf : f_X6_bound mo_bundleOf mo_marks x1 x2 = some o_res) : CtL l yX6_bound wsX6_bound rm_X6_bound D cI cJ [.ref (ad 15), .int x1, .int x2] (wdM cI cJ ad mo_pageLength mo_page mo_nodes mo_links mo_fromOf mo_toOf mo_width mo_drawn mo_seed mo_bundleOf mo_netsRead mo_sent mo_passagesEver mo_astrayEver mo_loopsEver mo_newNodes mo_newPairs mo_due mo_newOne mo_newFrom mo_newTo mo_marks mo_drawing mo_leftOf mo_wayMany mo_wayAt mo_bitsNow mo_passages mo_astray mo_loops mo_steps mo_reached mo_others mo_h) sz o_res (wdM cI cJ ad mo_pageLength mo_page mo_nodes mo_links mo_fromOf mo_toOf mo_width mo_drawn mo_seed mo_bundleOf mo_netsRead mo_sent mo_passagesEver mo_astrayEver mo_loopsEver mo_newNodes mo_newPairs mo_due mo_newOne mo_newFrom mo_newTo mo_marks mo_drawing mo_leftOf mo_wayMany mo_wayAt mo_bitsNow mo_passages mo_astray mo_loops mo_steps mo_reached mo_others mo_h) := by
  refine ctL_of (cc := cX6_bound) (maxL := 3) (by decide) rfl (Nat.le_of_ble_eq_true rfl) ?_
  intro p e s m below meth c Q A hx hb hml hown hts hK hN hA hret ls hl hP hD hS
  obtain ⟨args, hargs⟩ : ∃ a : Array Value, a = [.ref (ad 15), .int x1, .int x2].toArray := ⟨_, rfl⟩
  rw [← hargs] at hts hret ⊢
  have hown : s.vm.findClass RX6 = some m.cls := hown
  have hl : lv_has ls 3 [(0, .ref (ad 15)), (1, .int x1), (2, .int x2)] := hl
  have hin_X6 : ∀ w ∈ wsX60, w ∈ wsX6_bound := fun _ h => List.mem_cons_of_mem _ (List.mem_append_right _ h)
  have fl_29 : (Cond.fieldLink RX6 29 "FoldedWaysModel" "bundleOf" "[I").before args s = true := hat hts 1 rfl
  have fl_38 : (Cond.fieldLink RX6 38 "FoldedWaysModel" "marks" "[J").before args s = true := hat hts 3 rfl
  unfold f_X6_bound at hf
  refine lv_iload_n hx hb dX6_bound_0 rfl (lv_at hl 1 rfl) ?_
  have F : Fr D A _ [] [] (wdM cI cJ ad mo_pageLength mo_page mo_nodes mo_links mo_fromOf mo_toOf mo_width mo_drawn mo_seed mo_bundleOf mo_netsRead mo_sent mo_passagesEver mo_astrayEver mo_loopsEver mo_newNodes mo_newPairs mo_due mo_newOne mo_newFrom mo_newTo mo_marks mo_drawing mo_leftOf mo_wayMany mo_wayAt mo_bitsNow mo_passages mo_astray mo_loops mo_steps mo_reached mo_others mo_h) := fr_nil hP hD hS hA
  refine kZ F hS (rS (As := [.int x1]) (rest := []) ⟨hx, hb, hml, hown, hts⟩ hK hN F (c_X6_isPlace l D cI cJ ad _  x1 (o_res := (f_X6_isPlace x1)) rfl) (cwS 1 hts gX6_bound_X6_isPlace rfl rfl rfl (by decide +kernel) ⟨Nat.le_of_ble_eq_true rfl, Nat.le_of_ble_eq_true rfl⟩) rfl hl.1 rfl (Nat.le_of_ble_eq_true rfl) dX6_bound_1 ⟨Nat.zero_le _, Nat.zero_le _⟩) (fun H locs hb1 hP hD hS => ?_)
  refine lv_if_eq (tgt := 16) hx hb dX6_bound_4 (by decide) (fun c2 => ?_) (fun c2 => ?_)
  · have hf := oo_t hf c2
    refine lv_ldc2 (v := (-1001 : Int64)) hx hb hown (hat hts 2 rfl) dX6_bound_16 ?_
    cases hf
    exact hret _ _ _ _ dX6_bound_19 hP hD hS
  · have hf := oo_f hf c2
    refine lv_aload_n hx hb dX6_bound_7 rfl (lv_at hl 0 rfl) ?_
    refine va_get (ci := 6) (v := .ref (ad 19)) (C := RX6) (T := TX6) (N := 34) hx hb hts hin_X6 hown hK hP 0 rfl rfl 9 (by decide) fl_29 (fun _ h9 => h9) rfl dX6_bound_8 ?_
    refine lv_iload_n hx hb dX6_bound_11 rfl (lv_at hl 1 rfl) ?_
    obtain ⟨g3, hf⟩ := oo_g hf
    refine va_iald hx hb hK hP 4 0 rfl rfl g3 dX6_bound_12 ?_
    refine lv_if_ne (tgt := 20) hx hb dX6_bound_13 (by decide) (fun c4 => ?_) (fun c4 => ?_)
    · have hf := oo_f hf c4
      refine lv_iload_n hx hb dX6_bound_20 rfl (lv_at hl 2 rfl) ?_
      have F : Fr D A _ [] [] (wdM cI cJ ad mo_pageLength mo_page mo_nodes mo_links mo_fromOf mo_toOf mo_width mo_drawn mo_seed mo_bundleOf mo_netsRead mo_sent mo_passagesEver mo_astrayEver mo_loopsEver mo_newNodes mo_newPairs mo_due mo_newOne mo_newFrom mo_newTo mo_marks mo_drawing mo_leftOf mo_wayMany mo_wayAt mo_bitsNow mo_passages mo_astray mo_loops mo_steps mo_reached mo_others mo_h) := fr_nil hP hD hS hA
      refine kZ F hS (rS (As := [.int x2]) (rest := []) ⟨hx, hb, hml, hown, hts⟩ hK hN F (c_X6_isVariant l D cI cJ ad _  x2 (o_res := (f_X6_isVariant x2)) rfl) (cwS 1 hts gX6_bound_X6_isVariant rfl rfl rfl (by decide +kernel) ⟨Nat.le_of_ble_eq_true rfl, Nat.le_of_ble_eq_true rfl⟩) rfl hl.1 rfl (Nat.le_of_ble_eq_true rfl) dX6_bound_21 ⟨Nat.zero_le _, Nat.zero_le _⟩) (fun H locs hb5 hP hD hS => ?_)
      refine lv_if_eq (tgt := 44) hx hb dX6_bound_24 (by decide) (fun c6 => ?_) (fun c6 => ?_)
      · have hf := oo_t hf c6
        refine lv_ldc2 (v := (-1002 : Int64)) hx hb hown (hat hts 4 rfl) dX6_bound_44 ?_
        cases hf
        exact hret _ _ _ _ dX6_bound_47 hP hD hS
      · have hf := oo_f hf c6
        refine lv_aload_n hx hb dX6_bound_27 rfl (lv_at hl 0 rfl) ?_
        refine va_get (ci := 6) (v := .ref (ad 22)) (C := RX6) (T := TX6) (N := 34) hx hb hts hin_X6 hown hK hP 0 rfl rfl 21 (by decide) fl_38 (fun _ h9 => h9) rfl dX6_bound_28 ?_
        refine lv_bipush (v := (20 : Int32)) hx hb dX6_bound_31 (by decide) ?_
        refine lv_iload_n hx hb dX6_bound_33 rfl (lv_at hl 2 rfl) ?_
        refine lv_imul hx hb dX6_bound_34 ?_
        refine lv_bipush (v := (16 : Int32)) hx hb dX6_bound_35 (by decide) ?_
        refine lv_iadd hx hb dX6_bound_37 ?_
        refine lv_iload_n hx hb dX6_bound_38 rfl (lv_at hl 1 rfl) ?_
        refine lv_iadd hx hb dX6_bound_39 ?_
        obtain ⟨g7, hf⟩ := oo_g hf
        refine va_lald hx hb hK hP 7 1 rfl rfl g7 dX6_bound_40 ?_
        refine lv_goto (tgt := 47) hx hb dX6_bound_41 (by decide) ?_
        cases hf
        exact hret _ _ _ _ dX6_bound_47 hP hD hS
    · have hf := oo_t hf c4
      refine lv_ldc2 (v := (-1001 : Int64)) hx hb hown (hat hts 2 rfl) dX6_bound_16 ?_
      cases hf
      exact hret _ _ _ _ dX6_bound_19 hP hD hS
def f_X6_foldOf_L9 (mo_bundleOf : Nat → Int32) (mo_marks : Nat → Int64) (x1 : Int32) (x2 : Int32) (x3 : Int32) : Nat → Int64 → Int32 → Int32 → Option (Int64 × Int32)
  | 0, _, _, _ => none
  | n + 1, x4_a9, x6_a9, x7_a9 =>
      if (4 : Int32) ≤ x7_a9 then
        some (x4_a9, x6_a9)
      else
        if x3 = (0 : Int32) then
          some (x4_a9, x6_a9)
        else
          if x7_a9 < 0 ∨ 4 ≤ (x7_a9).toNatClampNeg then none else
          Option.bind (α := Int64 × Int32) (if (mo_bundleOf (x7_a9).toNatClampNeg) = (0 : Int32) then
              some (x4_a9, x6_a9)
            else
              if ((mo_bundleOf (x7_a9).toNatClampNeg) &&& (x1 ^^^ (-1 : Int32))) = (0 : Int32) then
                if ((((20 : Int32) * x2) + (16 : Int32)) + x7_a9) < 0 ∨ 60 ≤ (((((20 : Int32) * x2) + (16 : Int32)) + x7_a9)).toNatClampNeg then none else
                some ((x4_a9 ||| (mo_marks (((((20 : Int32) * x2) + (16 : Int32)) + x7_a9)).toNatClampNeg)), (x6_a9 &&& ((mo_bundleOf (x7_a9).toNatClampNeg) ^^^ (-1 : Int32))))
              else
                some (x4_a9, x6_a9)) fun (x4_7, x6_8) =>
          f_X6_foldOf_L9 mo_bundleOf mo_marks x1 x2 x3 n x4_7 x6_8 (x7_a9 + (1 : Int32))
theorem f_X6_foldOf_L9_s (mo_bundleOf : Nat → Int32) (mo_marks : Nat → Int64) (x1 : Int32) (x2 : Int32) (x3 : Int32) (n : Nat) (x4_a9 : Int64) (x6_a9 : Int32) (x7_a9 : Int32) : f_X6_foldOf_L9 mo_bundleOf mo_marks x1 x2 x3 (n + 1) x4_a9 x6_a9 x7_a9 =
      (if (4 : Int32) ≤ x7_a9 then
        some (x4_a9, x6_a9)
      else
        if x3 = (0 : Int32) then
          some (x4_a9, x6_a9)
        else
          if x7_a9 < 0 ∨ 4 ≤ (x7_a9).toNatClampNeg then none else
          Option.bind (α := Int64 × Int32) (if (mo_bundleOf (x7_a9).toNatClampNeg) = (0 : Int32) then
              some (x4_a9, x6_a9)
            else
              if ((mo_bundleOf (x7_a9).toNatClampNeg) &&& (x1 ^^^ (-1 : Int32))) = (0 : Int32) then
                if ((((20 : Int32) * x2) + (16 : Int32)) + x7_a9) < 0 ∨ 60 ≤ (((((20 : Int32) * x2) + (16 : Int32)) + x7_a9)).toNatClampNeg then none else
                some ((x4_a9 ||| (mo_marks (((((20 : Int32) * x2) + (16 : Int32)) + x7_a9)).toNatClampNeg)), (x6_a9 &&& ((mo_bundleOf (x7_a9).toNatClampNeg) ^^^ (-1 : Int32))))
              else
                some (x4_a9, x6_a9)) fun (x4_7, x6_8) =>
          f_X6_foldOf_L9 mo_bundleOf mo_marks x1 x2 x3 n x4_7 x6_8 (x7_a9 + (1 : Int32))) := rfl
def f_X6_foldOf_L86 (mo_links : Int32) (mo_marks : Nat → Int64) (x2 : Int32) (x6_o2 : Int32) : Nat → Int64 → Int32 → Option (Int64)
  | 0, _, _ => none
  | n + 1, x4_a86, x7_a86 =>
      if mo_links ≤ x7_a86 then
        some x4_a86
      else
        Option.bind (α := Int64) (if (f_X6_has x6_o2 x7_a86) = (0 : Int32) then
            some (0 : Int64)
          else
            if (((20 : Int32) * x2) + x7_a86) < 0 ∨ 60 ≤ ((((20 : Int32) * x2) + x7_a86)).toNatClampNeg then none else
            some (mo_marks ((((20 : Int32) * x2) + x7_a86)).toNatClampNeg)) fun k_21 =>
        f_X6_foldOf_L86 mo_links mo_marks x2 x6_o2 n (x4_a86 ||| k_21) (x7_a86 + (1 : Int32))
theorem f_X6_foldOf_L86_s (mo_links : Int32) (mo_marks : Nat → Int64) (x2 : Int32) (x6_o2 : Int32) (n : Nat) (x4_a86 : Int64) (x7_a86 : Int32) : f_X6_foldOf_L86 mo_links mo_marks x2 x6_o2 (n + 1) x4_a86 x7_a86 =
      (if mo_links ≤ x7_a86 then
        some x4_a86
      else
        Option.bind (α := Int64) (if (f_X6_has x6_o2 x7_a86) = (0 : Int32) then
            some (0 : Int64)
          else
            if (((20 : Int32) * x2) + x7_a86) < 0 ∨ 60 ≤ ((((20 : Int32) * x2) + x7_a86)).toNatClampNeg then none else
            some (mo_marks ((((20 : Int32) * x2) + x7_a86)).toNatClampNeg)) fun k_21 =>
        f_X6_foldOf_L86 mo_links mo_marks x2 x6_o2 n (x4_a86 ||| k_21) (x7_a86 + (1 : Int32))) := rfl
def f_X6_foldOf (mo_links : Int32) (mo_bundleOf : Nat → Int32) (mo_marks : Nat → Int64) (x1 : Int32) (x2 : Int32) (x3 : Int32) : Option (Int64) :=
  Option.bind (f_X6_foldOf_L9 mo_bundleOf mo_marks x1 x2 x3 100 (0 : Int64) x1 (0 : Int32)) fun (x4_o1, x6_o2) =>
  Option.bind (f_X6_foldOf_L86 mo_links mo_marks x2 x6_o2 100 x4_o1 (0 : Int32)) fun x4_o17 =>
  some x4_o17
abbrev rm_X6_foldOf : Room := { frames := 1, cells := 0, slots := 0, locals := 21 }
set_option maxHeartbeats 4000000 in
set_option maxRecDepth 100000 in
theorem c_X6_foldOf (l : Launch) (D : va_G) (cI cJ : ClassId) (ad : Nat → Nat) (sz : Nat) {mo_pageLength : Int32} {mo_page : Nat → Int32} {mo_nodes mo_links : Int32} {mo_fromOf mo_toOf : Nat → Int32} {mo_width mo_drawn mo_seed : Int32} {mo_bundleOf : Nat → Int32} {mo_netsRead mo_sent mo_passagesEver mo_astrayEver mo_loopsEver mo_newNodes mo_newPairs mo_due mo_newOne : Int32} {mo_newFrom mo_newTo : Nat → Int32} {mo_marks : Nat → Int64} {mo_drawing : Int64} {mo_leftOf : Nat → Int32} {mo_wayMany : Int32} {mo_wayAt : Nat → Int32} {mo_bitsNow : Int64} {mo_passages mo_astray mo_loops mo_steps mo_reached mo_others : Int32} {mo_h : Int64} (x1 : Int32) (x2 : Int32) (x3 : Int32) {o_res : Int64} (hf : f_X6_foldOf mo_links mo_bundleOf mo_marks x1 x2 x3 = some o_res) : CtL l yX6_foldOf wsX6_foldOf rm_X6_foldOf D cI cJ [.ref (ad 15), .int x1, .int x2, .int x3] (wdM cI cJ ad mo_pageLength mo_page mo_nodes mo_links mo_fromOf mo_toOf mo_width mo_drawn mo_seed mo_bundleOf mo_netsRead mo_sent mo_passagesEver mo_astrayEver mo_loopsEver mo_newNodes mo_newPairs mo_due mo_newOne mo_newFrom mo_newTo mo_marks mo_drawing mo_leftOf mo_wayMany mo_wayAt mo_bitsNow mo_passages mo_astray mo_loops mo_steps mo_reached mo_others mo_h) sz o_res (wdM cI cJ ad mo_pageLength mo_page mo_nodes mo_links mo_fromOf mo_toOf mo_width mo_drawn mo_seed mo_bundleOf mo_netsRead mo_sent mo_passagesEver mo_astrayEver mo_loopsEver mo_newNodes mo_newPairs mo_due mo_newOne mo_newFrom mo_newTo mo_marks mo_drawing mo_leftOf mo_wayMany mo_wayAt mo_bitsNow mo_passages mo_astray mo_loops mo_steps mo_reached mo_others mo_h) := by
  refine ctL_of (cc := cX6_foldOf) (maxL := 8) (by decide) rfl (Nat.le_of_ble_eq_true rfl) ?_
  intro p e s m below meth c Q A hx hb hml hown hts hK hN hA hret ls hl hP hD hS
  obtain ⟨args, hargs⟩ : ∃ a : Array Value, a = [.ref (ad 15), .int x1, .int x2, .int x3].toArray := ⟨_, rfl⟩
  rw [← hargs] at hts hret ⊢
  have hown : s.vm.findClass RX6 = some m.cls := hown
  have hl : lv_has ls 8 [(0, .ref (ad 15)), (1, .int x1), (2, .int x2), (3, .int x3)] := hl
  have hin_X6 : ∀ w ∈ wsX60, w ∈ wsX6_foldOf := fun _ h => List.mem_cons_of_mem _ (List.mem_append_right _ h)
  have fl_29 : (Cond.fieldLink RX6 29 "FoldedWaysModel" "bundleOf" "[I").before args s = true := hat hts 1 rfl
  have fl_38 : (Cond.fieldLink RX6 38 "FoldedWaysModel" "marks" "[J").before args s = true := hat hts 2 rfl
  have fl_85 : (Cond.fieldLink RX6 85 "FoldedWaysModel" "links" "I").before args s = true := hat hts 3 rfl
  unfold f_X6_foldOf at hf
  refine lv_lconst (v := (0 : Int64)) hx hb dX6_foldOf_0 (by decide) ?_
  refine lv_lstore (lv' := [(4, .long (0 : Int64)), (0, .ref (ad 15)), (1, .int x1), (2, .int x2), (3, .int x3)]) hx hb dX6_foldOf_1 hl (by decide) rfl (fun ls hl => ?_)
  refine lv_iload_n hx hb dX6_foldOf_3 rfl (lv_at hl 2 rfl) ?_
  refine lv_istore (lv' := [(6, .int x1), (4, .long (0 : Int64)), (0, .ref (ad 15)), (1, .int x1), (2, .int x2), (3, .int x3)]) hx hb dX6_foldOf_4 hl (by decide) rfl (fun ls hl => ?_)
  refine lv_iconst (v := (0 : Int32)) hx hb dX6_foldOf_6 (by decide) ?_
  refine lv_istore (lv' := [(7, .int (0 : Int32)), (6, .int x1), (4, .long (0 : Int64)), (0, .ref (ad 15)), (1, .int x1), (2, .int x2), (3, .int x3)]) hx hb dX6_foldOf_7 hl (by decide) rfl (fun ls hl => ?_)
  have lp3 : ∀ (n : Nat) (x4_a9 : Int64) (x6_a9 : Int32) (x7_a9 : Int32) (x4_o1 : Int64) (x6_o2 : Int32), f_X6_foldOf_L9 mo_bundleOf mo_marks x1 x2 x3 n x4_a9 x6_a9 x7_a9 = some (x4_o1, x6_o2) → (∀ (H : Heap) (locs : List Loc) (ls : Array Slot), va_P D vwCl (wdM cI cJ ad mo_pageLength mo_page mo_nodes mo_links mo_fromOf mo_toOf mo_width mo_drawn mo_seed mo_bundleOf mo_netsRead mo_sent mo_passagesEver mo_astrayEver mo_loopsEver mo_newNodes mo_newPairs mo_due mo_newOne mo_newFrom mo_newTo mo_marks mo_drawing mo_leftOf mo_wayMany mo_wayAt mo_bitsNow mo_passages mo_astray mo_loops mo_steps mo_reached mo_others mo_h) H → va_D A (wdM cI cJ ad mo_pageLength mo_page mo_nodes mo_links mo_fromOf mo_toOf mo_width mo_drawn mo_seed mo_bundleOf mo_netsRead mo_sent mo_passagesEver mo_astrayEver mo_loopsEver mo_newNodes mo_newPairs mo_due mo_newOne mo_newFrom mo_newTo mo_marks mo_drawing mo_leftOf mo_wayMany mo_wayAt mo_bitsNow mo_passages mo_astray mo_loops mo_steps mo_reached mo_others mo_h) → va_S A s.heap H locs → lv_has ls 8 [(0, .ref (ad 15)), (2, .int x2), (4, .long x4_o1), (6, .int x6_o2)] → W p l e rm_X6_foldOf s m args below meth c H locs 0 0 Q (F0 m 83 ls [])) → ∀ (H : Heap) (locs : List Loc) (ls : Array Slot), va_P D vwCl (wdM cI cJ ad mo_pageLength mo_page mo_nodes mo_links mo_fromOf mo_toOf mo_width mo_drawn mo_seed mo_bundleOf mo_netsRead mo_sent mo_passagesEver mo_astrayEver mo_loopsEver mo_newNodes mo_newPairs mo_due mo_newOne mo_newFrom mo_newTo mo_marks mo_drawing mo_leftOf mo_wayMany mo_wayAt mo_bitsNow mo_passages mo_astray mo_loops mo_steps mo_reached mo_others mo_h) H → va_D A (wdM cI cJ ad mo_pageLength mo_page mo_nodes mo_links mo_fromOf mo_toOf mo_width mo_drawn mo_seed mo_bundleOf mo_netsRead mo_sent mo_passagesEver mo_astrayEver mo_loopsEver mo_newNodes mo_newPairs mo_due mo_newOne mo_newFrom mo_newTo mo_marks mo_drawing mo_leftOf mo_wayMany mo_wayAt mo_bitsNow mo_passages mo_astray mo_loops mo_steps mo_reached mo_others mo_h) → va_S A s.heap H locs → lv_has ls 8 [(0, .ref (ad 15)), (1, .int x1), (2, .int x2), (3, .int x3), (4, .long x4_a9), (6, .int x6_a9), (7, .int x7_a9)] → W p l e rm_X6_foldOf s m args below meth c H locs 0 0 Q (F0 m 9 ls []) := by
    intro n
    induction n with
    | zero =>
      intro x4_a9 x6_a9 x7_a9 x4_o1 x6_o2 h0
      exact oo_n h0
    | succ n ih =>
      intro x4_a9 x6_a9 x7_a9 x4_o1 x6_o2 hf kk H locs ls hP hD hS hl
      rw [f_X6_foldOf_L9_s] at hf
      refine lv_iload hx hb dX6_foldOf_9 (lv_at hl 6 rfl) ?_
      refine lv_iconst (v := (4 : Int32)) hx hb dX6_foldOf_11 (by decide) ?_
      refine lv_icmp_ge (tgt := 83) hx hb dX6_foldOf_12 (by decide) (fun c4 => ?_) (fun c4 => ?_)
      · have hf := oo_t hf c4
        cases hf
        exact kk _ _ _ hP hD hS (lv_sub hl [0, 2, 4, 5] rfl)
      · have hf := oo_f hf c4
        refine lv_iload_n hx hb dX6_foldOf_15 rfl (lv_at hl 3 rfl) ?_
        refine lv_if_eq (tgt := 83) hx hb dX6_foldOf_16 (by decide) (fun c5 => ?_) (fun c5 => ?_)
        · have hf := oo_t hf c5
          cases hf
          exact kk _ _ _ hP hD hS (lv_sub hl [0, 2, 4, 5] rfl)
        · have hf := oo_f hf c5
          refine lv_aload_n hx hb dX6_foldOf_19 rfl (lv_at hl 0 rfl) ?_
          refine va_get (ci := 6) (v := .ref (ad 19)) (C := RX6) (T := TX6) (N := 34) hx hb hts hin_X6 hown hK hP 0 rfl rfl 9 (by decide) fl_29 (fun _ h9 => h9) rfl dX6_foldOf_20 ?_
          refine lv_iload hx hb dX6_foldOf_23 (lv_at hl 6 rfl) ?_
          obtain ⟨g6, hf⟩ := oo_g hf
          refine va_iald hx hb hK hP 4 0 rfl rfl g6 dX6_foldOf_25 ?_
          obtain ⟨⟨x4_7, x6_8⟩, hj10, hf⟩ := oo_b hf
          try dsimp only at hf
          have kj9 : ∀ (H : Heap) (locs : List Loc) (ls : Array Slot), va_P D vwCl (wdM cI cJ ad mo_pageLength mo_page mo_nodes mo_links mo_fromOf mo_toOf mo_width mo_drawn mo_seed mo_bundleOf mo_netsRead mo_sent mo_passagesEver mo_astrayEver mo_loopsEver mo_newNodes mo_newPairs mo_due mo_newOne mo_newFrom mo_newTo mo_marks mo_drawing mo_leftOf mo_wayMany mo_wayAt mo_bitsNow mo_passages mo_astray mo_loops mo_steps mo_reached mo_others mo_h) H → va_D A (wdM cI cJ ad mo_pageLength mo_page mo_nodes mo_links mo_fromOf mo_toOf mo_width mo_drawn mo_seed mo_bundleOf mo_netsRead mo_sent mo_passagesEver mo_astrayEver mo_loopsEver mo_newNodes mo_newPairs mo_due mo_newOne mo_newFrom mo_newTo mo_marks mo_drawing mo_leftOf mo_wayMany mo_wayAt mo_bitsNow mo_passages mo_astray mo_loops mo_steps mo_reached mo_others mo_h) → va_S A s.heap H locs → lv_has ls 8 [(0, .ref (ad 15)), (1, .int x1), (2, .int x2), (3, .int x3), (4, .long x4_7), (6, .int x6_8), (7, .int x7_a9)] → W p l e rm_X6_foldOf s m args below meth c H locs 0 0 Q (F0 m 77 ls []) := by
            intro H locs ls hP hD hS hl
            refine lv_iinc (v := (x7_a9 + (1 : Int32))) (lv' := [(7, .int (x7_a9 + (1 : Int32))), (0, .ref (ad 15)), (1, .int x1), (2, .int x2), (3, .int x3), (4, .long x4_7), (6, .int x6_8)]) hx hb dX6_foldOf_77 hl (k := 6) rfl rfl (by decide) rfl (fun ls hl => ?_)
            refine lv_goto (tgt := 9) hx hb dX6_foldOf_80 (by decide) ?_
            exact ih x4_7 x6_8 (x7_a9 + (1 : Int32)) _ _ hf kk _ _ _ hP hD hS (lv_sub hl [1, 2, 3, 4, 5, 6, 0] rfl)
          clear hf
          have hf := hj10
          clear hj10
          refine lv_if_eq (tgt := 77) hx hb dX6_foldOf_26 (by decide) (fun c11 => ?_) (fun c11 => ?_)
          · have hf := oo_t hf c11
            cases hf
            exact kj9 _ _ _ hP hD hS (lv_sub hl [0, 1, 2, 3, 4, 5, 6] rfl)
          · have hf := oo_f hf c11
            refine lv_aload_n hx hb dX6_foldOf_29 rfl (lv_at hl 0 rfl) ?_
            refine va_get (ci := 6) (v := .ref (ad 19)) (C := RX6) (T := TX6) (N := 34) hx hb hts hin_X6 hown hK hP 0 rfl rfl 9 (by decide) fl_29 (fun _ h9 => h9) rfl dX6_foldOf_30 ?_
            refine lv_iload hx hb dX6_foldOf_33 (lv_at hl 6 rfl) ?_
            refine va_iald hx hb hK hP 4 0 rfl rfl g6 dX6_foldOf_35 ?_
            refine lv_iload_n hx hb dX6_foldOf_36 rfl (lv_at hl 1 rfl) ?_
            refine lv_iconst (v := (-1 : Int32)) hx hb dX6_foldOf_37 (by decide) ?_
            refine lv_ixor hx hb dX6_foldOf_38 ?_
            refine lv_iand hx hb dX6_foldOf_39 ?_
            refine lv_if_ne (tgt := 77) hx hb dX6_foldOf_40 (by decide) (fun c13 => ?_) (fun c13 => ?_)
            · have hf := oo_f hf c13
              cases hf
              exact kj9 _ _ _ hP hD hS (lv_sub hl [0, 1, 2, 3, 4, 5, 6] rfl)
            · have hf := oo_t hf c13
              refine lv_lload hx hb dX6_foldOf_43 (lv_at hl 4 rfl) ?_
              refine lv_aload_n hx hb dX6_foldOf_45 rfl (lv_at hl 0 rfl) ?_
              refine va_get (ci := 6) (v := .ref (ad 22)) (C := RX6) (T := TX6) (N := 34) hx hb hts hin_X6 hown hK hP 0 rfl rfl 21 (by decide) fl_38 (fun _ h9 => h9) rfl dX6_foldOf_46 ?_
              refine lv_bipush (v := (20 : Int32)) hx hb dX6_foldOf_49 (by decide) ?_
              refine lv_iload_n hx hb dX6_foldOf_51 rfl (lv_at hl 2 rfl) ?_
              refine lv_imul hx hb dX6_foldOf_52 ?_
              refine lv_bipush (v := (16 : Int32)) hx hb dX6_foldOf_53 (by decide) ?_
              refine lv_iadd hx hb dX6_foldOf_55 ?_
              refine lv_iload hx hb dX6_foldOf_56 (lv_at hl 6 rfl) ?_
              refine lv_iadd hx hb dX6_foldOf_58 ?_
              obtain ⟨g14, hf⟩ := oo_g hf
              refine va_lald hx hb hK hP 7 1 rfl rfl g14 dX6_foldOf_59 ?_
              refine lv_lor hx hb dX6_foldOf_60 ?_
              refine lv_lstore (lv' := [(4, .long (x4_a9 ||| (mo_marks (((((20 : Int32) * x2) + (16 : Int32)) + x7_a9)).toNatClampNeg))), (0, .ref (ad 15)), (1, .int x1), (2, .int x2), (3, .int x3), (6, .int x6_a9), (7, .int x7_a9)]) hx hb dX6_foldOf_61 hl (by decide) rfl (fun ls hl => ?_)
              refine lv_iload hx hb dX6_foldOf_63 (lv_at hl 5 rfl) ?_
              refine lv_aload_n hx hb dX6_foldOf_65 rfl (lv_at hl 1 rfl) ?_
              refine va_get (ci := 6) (v := .ref (ad 19)) (C := RX6) (T := TX6) (N := 34) hx hb hts hin_X6 hown hK hP 0 rfl rfl 9 (by decide) fl_29 (fun _ h9 => h9) rfl dX6_foldOf_66 ?_
              refine lv_iload hx hb dX6_foldOf_69 (lv_at hl 6 rfl) ?_
              refine va_iald hx hb hK hP 4 0 rfl rfl g6 dX6_foldOf_71 ?_
              refine lv_iconst (v := (-1 : Int32)) hx hb dX6_foldOf_72 (by decide) ?_
              refine lv_ixor hx hb dX6_foldOf_73 ?_
              refine lv_iand hx hb dX6_foldOf_74 ?_
              refine lv_istore (lv' := [(6, .int (x6_a9 &&& ((mo_bundleOf (x7_a9).toNatClampNeg) ^^^ (-1 : Int32)))), (4, .long (x4_a9 ||| (mo_marks (((((20 : Int32) * x2) + (16 : Int32)) + x7_a9)).toNatClampNeg))), (0, .ref (ad 15)), (1, .int x1), (2, .int x2), (3, .int x3), (7, .int x7_a9)]) hx hb dX6_foldOf_75 hl (by decide) rfl (fun ls hl => ?_)
              cases hf
              exact kj9 _ _ _ hP hD hS (lv_sub hl [2, 3, 4, 5, 1, 0, 6] rfl)
  obtain ⟨⟨x4_o1, x6_o2⟩, h16, hf⟩ := oo_b hf
  try dsimp only at hf
  refine lp3  100 (0 : Int64) x1 (0 : Int32) x4_o1 x6_o2 h16 (fun H locs ls hP hD hS hl => ?_) _ _ _ hP hD hS (lv_sub hl [3, 4, 5, 6, 2, 1, 0] rfl)
  refine lv_iconst (v := (0 : Int32)) hx hb dX6_foldOf_83 (by decide) ?_
  refine lv_istore (lv' := [(7, .int (0 : Int32)), (0, .ref (ad 15)), (2, .int x2), (4, .long x4_o1), (6, .int x6_o2)]) hx hb dX6_foldOf_84 hl (by decide) rfl (fun ls hl => ?_)
  have lp18 : ∀ (n : Nat) (x4_a86 : Int64) (x7_a86 : Int32) (x4_o17 : Int64), f_X6_foldOf_L86 mo_links mo_marks x2 x6_o2 n x4_a86 x7_a86 = some x4_o17 → (∀ (H : Heap) (locs : List Loc) (ls : Array Slot), va_P D vwCl (wdM cI cJ ad mo_pageLength mo_page mo_nodes mo_links mo_fromOf mo_toOf mo_width mo_drawn mo_seed mo_bundleOf mo_netsRead mo_sent mo_passagesEver mo_astrayEver mo_loopsEver mo_newNodes mo_newPairs mo_due mo_newOne mo_newFrom mo_newTo mo_marks mo_drawing mo_leftOf mo_wayMany mo_wayAt mo_bitsNow mo_passages mo_astray mo_loops mo_steps mo_reached mo_others mo_h) H → va_D A (wdM cI cJ ad mo_pageLength mo_page mo_nodes mo_links mo_fromOf mo_toOf mo_width mo_drawn mo_seed mo_bundleOf mo_netsRead mo_sent mo_passagesEver mo_astrayEver mo_loopsEver mo_newNodes mo_newPairs mo_due mo_newOne mo_newFrom mo_newTo mo_marks mo_drawing mo_leftOf mo_wayMany mo_wayAt mo_bitsNow mo_passages mo_astray mo_loops mo_steps mo_reached mo_others mo_h) → va_S A s.heap H locs → lv_has ls 8 [(4, .long x4_o17)] → W p l e rm_X6_foldOf s m args below meth c H locs 0 0 Q (F0 m 132 ls [])) → ∀ (H : Heap) (locs : List Loc) (ls : Array Slot), va_P D vwCl (wdM cI cJ ad mo_pageLength mo_page mo_nodes mo_links mo_fromOf mo_toOf mo_width mo_drawn mo_seed mo_bundleOf mo_netsRead mo_sent mo_passagesEver mo_astrayEver mo_loopsEver mo_newNodes mo_newPairs mo_due mo_newOne mo_newFrom mo_newTo mo_marks mo_drawing mo_leftOf mo_wayMany mo_wayAt mo_bitsNow mo_passages mo_astray mo_loops mo_steps mo_reached mo_others mo_h) H → va_D A (wdM cI cJ ad mo_pageLength mo_page mo_nodes mo_links mo_fromOf mo_toOf mo_width mo_drawn mo_seed mo_bundleOf mo_netsRead mo_sent mo_passagesEver mo_astrayEver mo_loopsEver mo_newNodes mo_newPairs mo_due mo_newOne mo_newFrom mo_newTo mo_marks mo_drawing mo_leftOf mo_wayMany mo_wayAt mo_bitsNow mo_passages mo_astray mo_loops mo_steps mo_reached mo_others mo_h) → va_S A s.heap H locs → lv_has ls 8 [(0, .ref (ad 15)), (2, .int x2), (4, .long x4_a86), (6, .int x6_o2), (7, .int x7_a86)] → W p l e rm_X6_foldOf s m args below meth c H locs 0 0 Q (F0 m 86 ls []) := by
    intro n
    induction n with
    | zero =>
      intro x4_a86 x7_a86 x4_o17 h0
      exact oo_n h0
    | succ n ih =>
      intro x4_a86 x7_a86 x4_o17 hf kk H locs ls hP hD hS hl
      rw [f_X6_foldOf_L86_s] at hf
      refine lv_iload hx hb dX6_foldOf_86 (lv_at hl 4 rfl) ?_
      refine lv_aload_n hx hb dX6_foldOf_88 rfl (lv_at hl 0 rfl) ?_
      refine va_get (ci := 6) (v := .int mo_links) (C := RX6) (T := TX6) (N := 34) hx hb hts hin_X6 hown hK hP 0 rfl rfl 3 (by decide) fl_85 (fun _ h9 => h9) rfl dX6_foldOf_89 ?_
      refine lv_icmp_ge (tgt := 132) hx hb dX6_foldOf_92 (by decide) (fun c19 => ?_) (fun c19 => ?_)
      · have hf := oo_t hf c19
        cases hf
        exact kk _ _ _ hP hD hS (lv_sub hl [2] rfl)
      · have hf := oo_f hf c19
        refine lv_lload hx hb dX6_foldOf_95 (lv_at hl 2 rfl) ?_
        refine lv_iload hx hb dX6_foldOf_97 (lv_at hl 3 rfl) ?_
        refine lv_iload hx hb dX6_foldOf_99 (lv_at hl 4 rfl) ?_
        have F : Fr D A _ [] [] (wdM cI cJ ad mo_pageLength mo_page mo_nodes mo_links mo_fromOf mo_toOf mo_width mo_drawn mo_seed mo_bundleOf mo_netsRead mo_sent mo_passagesEver mo_astrayEver mo_loopsEver mo_newNodes mo_newPairs mo_due mo_newOne mo_newFrom mo_newTo mo_marks mo_drawing mo_leftOf mo_wayMany mo_wayAt mo_bitsNow mo_passages mo_astray mo_loops mo_steps mo_reached mo_others mo_h) := fr_nil hP hD hS hA
        refine kZ F hS (rS (As := [.int x6_o2, .int x7_a86]) (rest := [.long x4_a86]) ⟨hx, hb, hml, hown, hts⟩ hK hN F (c_X6_has l D cI cJ ad _  x6_o2 x7_a86 (o_res := (f_X6_has x6_o2 x7_a86)) rfl) (cwS 2 hts gX6_foldOf_X6_has rfl rfl rfl (by decide +kernel) ⟨Nat.le_of_ble_eq_true rfl, Nat.le_of_ble_eq_true rfl⟩) rfl hl.1 rfl (Nat.le_of_ble_eq_true rfl) dX6_foldOf_101 ⟨Nat.zero_le _, Nat.zero_le _⟩) (fun H locs hb20 hP hD hS => ?_)
        obtain ⟨k_21, hj23, hf⟩ := oo_b hf
        try dsimp only at hf
        have kj22 : ∀ (H : Heap) (locs : List Loc) (ls : Array Slot), va_P D vwCl (wdM cI cJ ad mo_pageLength mo_page mo_nodes mo_links mo_fromOf mo_toOf mo_width mo_drawn mo_seed mo_bundleOf mo_netsRead mo_sent mo_passagesEver mo_astrayEver mo_loopsEver mo_newNodes mo_newPairs mo_due mo_newOne mo_newFrom mo_newTo mo_marks mo_drawing mo_leftOf mo_wayMany mo_wayAt mo_bitsNow mo_passages mo_astray mo_loops mo_steps mo_reached mo_others mo_h) H → va_D A (wdM cI cJ ad mo_pageLength mo_page mo_nodes mo_links mo_fromOf mo_toOf mo_width mo_drawn mo_seed mo_bundleOf mo_netsRead mo_sent mo_passagesEver mo_astrayEver mo_loopsEver mo_newNodes mo_newPairs mo_due mo_newOne mo_newFrom mo_newTo mo_marks mo_drawing mo_leftOf mo_wayMany mo_wayAt mo_bitsNow mo_passages mo_astray mo_loops mo_steps mo_reached mo_others mo_h) → va_S A s.heap H locs → lv_has ls 8 [(0, .ref (ad 15)), (2, .int x2), (6, .int x6_o2), (7, .int x7_a86)] → W p l e rm_X6_foldOf s m args below meth c H locs 0 0 Q (F0 m 123 ls [.long k_21, .long x4_a86]) := by
          intro H locs ls hP hD hS hl
          refine lv_lor hx hb dX6_foldOf_123 ?_
          refine lv_lstore (lv' := [(4, .long (x4_a86 ||| k_21)), (0, .ref (ad 15)), (2, .int x2), (6, .int x6_o2), (7, .int x7_a86)]) hx hb dX6_foldOf_124 hl (by decide) rfl (fun ls hl => ?_)
          refine lv_iinc (v := (x7_a86 + (1 : Int32))) (lv' := [(7, .int (x7_a86 + (1 : Int32))), (4, .long (x4_a86 ||| k_21)), (0, .ref (ad 15)), (2, .int x2), (6, .int x6_o2)]) hx hb dX6_foldOf_126 hl (k := 4) rfl rfl (by decide) rfl (fun ls hl => ?_)
          refine lv_goto (tgt := 86) hx hb dX6_foldOf_129 (by decide) ?_
          exact ih (x4_a86 ||| k_21) (x7_a86 + (1 : Int32)) _ hf kk _ _ _ hP hD hS (lv_sub hl [2, 3, 1, 4, 0] rfl)
        clear hf
        have hf := hj23
        clear hj23
        refine lv_if_eq (tgt := 122) hx hb dX6_foldOf_104 (by decide) (fun c24 => ?_) (fun c24 => ?_)
        · have hf := oo_t hf c24
          refine lv_lconst (v := (0 : Int64)) hx hb dX6_foldOf_122 (by decide) ?_
          cases hf
          exact kj22 _ _ _ hP hD hS (lv_sub hl [0, 1, 3, 4] rfl)
        · have hf := oo_f hf c24
          refine lv_aload_n hx hb dX6_foldOf_107 rfl (lv_at hl 0 rfl) ?_
          refine va_get (ci := 6) (v := .ref (ad 22)) (C := RX6) (T := TX6) (N := 34) hx hb hts hin_X6 hown hK hP 0 rfl rfl 21 (by decide) fl_38 (fun _ h9 => h9) rfl dX6_foldOf_108 ?_
          refine lv_bipush (v := (20 : Int32)) hx hb dX6_foldOf_111 (by decide) ?_
          refine lv_iload_n hx hb dX6_foldOf_113 rfl (lv_at hl 1 rfl) ?_
          refine lv_imul hx hb dX6_foldOf_114 ?_
          refine lv_iload hx hb dX6_foldOf_115 (lv_at hl 4 rfl) ?_
          refine lv_iadd hx hb dX6_foldOf_117 ?_
          obtain ⟨g25, hf⟩ := oo_g hf
          refine va_lald hx hb hK hP 7 1 rfl rfl g25 dX6_foldOf_118 ?_
          refine lv_goto (tgt := 123) hx hb dX6_foldOf_119 (by decide) ?_
          cases hf
          exact kj22 _ _ _ hP hD hS (lv_sub hl [0, 1, 3, 4] rfl)
  obtain ⟨x4_o17, h26, hf⟩ := oo_b hf
  try dsimp only at hf
  refine lp18  100 x4_o1 (0 : Int32) x4_o17 h26 (fun H locs ls hP hD hS hl => ?_) _ _ _ hP hD hS (lv_sub hl [1, 2, 3, 4, 0] rfl)
  refine lv_lload hx hb dX6_foldOf_132 (lv_at hl 0 rfl) ?_
  cases hf
  exact hret _ _ _ _ dX6_foldOf_134 hP hD hS
def f_X6_fold (mo_nodes : Int32) (mo_links : Int32) (mo_fromOf : Nat → Int32) (mo_toOf : Nat → Int32) (mo_bundleOf : Nat → Int32) (mo_marks : Nat → Int64) (mo_leftOf : Nat → Int32) (mo_wayMany : Int32) (mo_wayAt : Nat → Int32) (x1 : Int32) (x2 : Int32) (x3 : Int32) (x4 : Int32) : Option (Int64 × (Nat → Int32) × Int32 × (Nat → Int32)) :=
  if (f_X6_isNode mo_nodes x1) = (0 : Int32) then
    some ((-1001 : Int64), mo_leftOf, mo_wayMany, mo_wayAt)
  else
    if (f_X6_isSet mo_nodes x2) = (0 : Int32) then
      some ((-1002 : Int64), mo_leftOf, mo_wayMany, mo_wayAt)
    else
      if (f_X6_isVariant x3) = (0 : Int32) then
        some ((-1002 : Int64), mo_leftOf, mo_wayMany, mo_wayAt)
      else
        Option.bind (f_X6_treeOf mo_nodes mo_links mo_fromOf mo_toOf mo_leftOf mo_wayMany mo_wayAt x1 x2) fun (r8, mo_leftOf_9, mo_wayMany_10, mo_wayAt_11) =>
        Option.bind (f_X6_foldOf mo_links mo_bundleOf mo_marks r8 x3 x4) fun r14 =>
        some (r14, mo_leftOf_9, mo_wayMany_10, mo_wayAt_11)
abbrev rm_X6_fold : Room := { frames := 3, cells := 0, slots := 0, locals := 73 }
set_option maxHeartbeats 4000000 in
set_option maxRecDepth 100000 in
theorem c_X6_fold (l : Launch) (D : va_G) (cI cJ : ClassId) (ad : Nat → Nat) (sz : Nat) {mo_pageLength : Int32} {mo_page : Nat → Int32} {mo_nodes mo_links : Int32} {mo_fromOf mo_toOf : Nat → Int32} {mo_width mo_drawn mo_seed : Int32} {mo_bundleOf : Nat → Int32} {mo_netsRead mo_sent mo_passagesEver mo_astrayEver mo_loopsEver mo_newNodes mo_newPairs mo_due mo_newOne : Int32} {mo_newFrom mo_newTo : Nat → Int32} {mo_marks : Nat → Int64} {mo_drawing : Int64} {mo_leftOf : Nat → Int32} {mo_wayMany : Int32} {mo_wayAt : Nat → Int32} {mo_bitsNow : Int64} {mo_passages mo_astray mo_loops mo_steps mo_reached mo_others : Int32} {mo_h : Int64} (x1 : Int32) (x2 : Int32) (x3 : Int32) (x4 : Int32) {o_res : Int64} {o_mo_leftOf : Nat → Int32} {o_mo_wayMany : Int32} {o_mo_wayAt : Nat → Int32} (hf : f_X6_fold mo_nodes mo_links mo_fromOf mo_toOf mo_bundleOf mo_marks mo_leftOf mo_wayMany mo_wayAt x1 x2 x3 x4 = some (o_res, o_mo_leftOf, o_mo_wayMany, o_mo_wayAt)) : CtL l yX6_fold wsX6_fold rm_X6_fold D cI cJ [.ref (ad 15), .int x1, .int x2, .int x3, .int x4] (wdM cI cJ ad mo_pageLength mo_page mo_nodes mo_links mo_fromOf mo_toOf mo_width mo_drawn mo_seed mo_bundleOf mo_netsRead mo_sent mo_passagesEver mo_astrayEver mo_loopsEver mo_newNodes mo_newPairs mo_due mo_newOne mo_newFrom mo_newTo mo_marks mo_drawing mo_leftOf mo_wayMany mo_wayAt mo_bitsNow mo_passages mo_astray mo_loops mo_steps mo_reached mo_others mo_h) sz o_res (wdM cI cJ ad mo_pageLength mo_page mo_nodes mo_links mo_fromOf mo_toOf mo_width mo_drawn mo_seed mo_bundleOf mo_netsRead mo_sent mo_passagesEver mo_astrayEver mo_loopsEver mo_newNodes mo_newPairs mo_due mo_newOne mo_newFrom mo_newTo mo_marks mo_drawing o_mo_leftOf o_mo_wayMany o_mo_wayAt mo_bitsNow mo_passages mo_astray mo_loops mo_steps mo_reached mo_others mo_h) := by
  refine ctL_of (cc := cX6_fold) (maxL := 5) (by decide) rfl (Nat.le_of_ble_eq_true rfl) ?_
  intro p e s m below meth c Q A hx hb hml hown hts hK hN hA hret ls hl hP hD hS
  obtain ⟨args, hargs⟩ : ∃ a : Array Value, a = [.ref (ad 15), .int x1, .int x2, .int x3, .int x4].toArray := ⟨_, rfl⟩
  rw [← hargs] at hts hret ⊢
  have hown : s.vm.findClass RX6 = some m.cls := hown
  have hl : lv_has ls 5 [(0, .ref (ad 15)), (1, .int x1), (2, .int x2), (3, .int x3), (4, .int x4)] := hl
  unfold f_X6_fold at hf
  refine lv_aload_n hx hb dX6_fold_0 rfl (lv_at hl 0 rfl) ?_
  refine lv_iload_n hx hb dX6_fold_1 rfl (lv_at hl 1 rfl) ?_
  have F : Fr D A _ (wdM cI cJ ad mo_pageLength mo_page mo_nodes mo_links mo_fromOf mo_toOf mo_width mo_drawn mo_seed mo_bundleOf mo_netsRead mo_sent mo_passagesEver mo_astrayEver mo_loopsEver mo_newNodes mo_newPairs mo_due mo_newOne mo_newFrom mo_newTo mo_marks mo_drawing mo_leftOf mo_wayMany mo_wayAt mo_bitsNow mo_passages mo_astray mo_loops mo_steps mo_reached mo_others mo_h) (wdM cI cJ ad mo_pageLength mo_page mo_nodes mo_links mo_fromOf mo_toOf mo_width mo_drawn mo_seed mo_bundleOf mo_netsRead mo_sent mo_passagesEver mo_astrayEver mo_loopsEver mo_newNodes mo_newPairs mo_due mo_newOne mo_newFrom mo_newTo mo_marks mo_drawing mo_leftOf mo_wayMany mo_wayAt mo_bitsNow mo_passages mo_astray mo_loops mo_steps mo_reached mo_others mo_h) (wdM cI cJ ad mo_pageLength mo_page mo_nodes mo_links mo_fromOf mo_toOf mo_width mo_drawn mo_seed mo_bundleOf mo_netsRead mo_sent mo_passagesEver mo_astrayEver mo_loopsEver mo_newNodes mo_newPairs mo_due mo_newOne mo_newFrom mo_newTo mo_marks mo_drawing mo_leftOf mo_wayMany mo_wayAt mo_bitsNow mo_passages mo_astray mo_loops mo_steps mo_reached mo_others mo_h) := fr_self hP hD hS hA
  refine kZ F hS (rV (q := (RX6, TX6, 34)) (As := [.int x1]) (rest := []) ⟨hx, hb, hml, hown, hts⟩ hK hN F (c_X6_isNode l D cI cJ ad _ (mo_pageLength := mo_pageLength) (mo_page := mo_page) (mo_nodes := mo_nodes) (mo_links := mo_links) (mo_fromOf := mo_fromOf) (mo_toOf := mo_toOf) (mo_width := mo_width) (mo_drawn := mo_drawn) (mo_seed := mo_seed) (mo_bundleOf := mo_bundleOf) (mo_netsRead := mo_netsRead) (mo_sent := mo_sent) (mo_passagesEver := mo_passagesEver) (mo_astrayEver := mo_astrayEver) (mo_loopsEver := mo_loopsEver) (mo_newNodes := mo_newNodes) (mo_newPairs := mo_newPairs) (mo_due := mo_due) (mo_newOne := mo_newOne) (mo_newFrom := mo_newFrom) (mo_newTo := mo_newTo) (mo_marks := mo_marks) (mo_drawing := mo_drawing) (mo_leftOf := mo_leftOf) (mo_wayMany := mo_wayMany) (mo_wayAt := mo_wayAt) (mo_bitsNow := mo_bitsNow) (mo_passages := mo_passages) (mo_astray := mo_astray) (mo_loops := mo_loops) (mo_steps := mo_steps) (mo_reached := mo_reached) (mo_others := mo_others) (mo_h := mo_h) x1 (o_res := (f_X6_isNode mo_nodes x1)) rfl) (cwV 1 hts gX6_fold_X6_isNode rfl rfl rfl (by decide +kernel) ⟨Nat.le_of_ble_eq_true rfl, Nat.le_of_ble_eq_true rfl⟩) (ci := 6) rfl rfl rfl hl.1 rfl (Nat.le_of_ble_eq_true rfl) dX6_fold_2 ⟨Nat.zero_le _, Nat.zero_le _⟩) (fun H locs hb1 hP hD hS => ?_)
  refine lv_if_ne (tgt := 12) hx hb dX6_fold_5 (by decide) (fun c2 => ?_) (fun c2 => ?_)
  · have hf := oo_f hf c2
    refine lv_aload_n hx hb dX6_fold_12 rfl (lv_at hl 0 rfl) ?_
    refine lv_iload_n hx hb dX6_fold_13 rfl (lv_at hl 2 rfl) ?_
    have F : Fr D A _ (wdM cI cJ ad mo_pageLength mo_page mo_nodes mo_links mo_fromOf mo_toOf mo_width mo_drawn mo_seed mo_bundleOf mo_netsRead mo_sent mo_passagesEver mo_astrayEver mo_loopsEver mo_newNodes mo_newPairs mo_due mo_newOne mo_newFrom mo_newTo mo_marks mo_drawing mo_leftOf mo_wayMany mo_wayAt mo_bitsNow mo_passages mo_astray mo_loops mo_steps mo_reached mo_others mo_h) (wdM cI cJ ad mo_pageLength mo_page mo_nodes mo_links mo_fromOf mo_toOf mo_width mo_drawn mo_seed mo_bundleOf mo_netsRead mo_sent mo_passagesEver mo_astrayEver mo_loopsEver mo_newNodes mo_newPairs mo_due mo_newOne mo_newFrom mo_newTo mo_marks mo_drawing mo_leftOf mo_wayMany mo_wayAt mo_bitsNow mo_passages mo_astray mo_loops mo_steps mo_reached mo_others mo_h) (wdM cI cJ ad mo_pageLength mo_page mo_nodes mo_links mo_fromOf mo_toOf mo_width mo_drawn mo_seed mo_bundleOf mo_netsRead mo_sent mo_passagesEver mo_astrayEver mo_loopsEver mo_newNodes mo_newPairs mo_due mo_newOne mo_newFrom mo_newTo mo_marks mo_drawing mo_leftOf mo_wayMany mo_wayAt mo_bitsNow mo_passages mo_astray mo_loops mo_steps mo_reached mo_others mo_h) := fr_self hP hD hS hA
    refine kZ F hS (rV (q := (RX6, TX6, 34)) (As := [.int x2]) (rest := []) ⟨hx, hb, hml, hown, hts⟩ hK hN F (c_X6_isSet l D cI cJ ad _ (mo_pageLength := mo_pageLength) (mo_page := mo_page) (mo_nodes := mo_nodes) (mo_links := mo_links) (mo_fromOf := mo_fromOf) (mo_toOf := mo_toOf) (mo_width := mo_width) (mo_drawn := mo_drawn) (mo_seed := mo_seed) (mo_bundleOf := mo_bundleOf) (mo_netsRead := mo_netsRead) (mo_sent := mo_sent) (mo_passagesEver := mo_passagesEver) (mo_astrayEver := mo_astrayEver) (mo_loopsEver := mo_loopsEver) (mo_newNodes := mo_newNodes) (mo_newPairs := mo_newPairs) (mo_due := mo_due) (mo_newOne := mo_newOne) (mo_newFrom := mo_newFrom) (mo_newTo := mo_newTo) (mo_marks := mo_marks) (mo_drawing := mo_drawing) (mo_leftOf := mo_leftOf) (mo_wayMany := mo_wayMany) (mo_wayAt := mo_wayAt) (mo_bitsNow := mo_bitsNow) (mo_passages := mo_passages) (mo_astray := mo_astray) (mo_loops := mo_loops) (mo_steps := mo_steps) (mo_reached := mo_reached) (mo_others := mo_others) (mo_h := mo_h) x2 (o_res := (f_X6_isSet mo_nodes x2)) rfl) (cwV 1 hts gX6_fold_X6_isSet rfl rfl rfl (by decide +kernel) ⟨Nat.le_of_ble_eq_true rfl, Nat.le_of_ble_eq_true rfl⟩) (ci := 6) rfl rfl rfl hl.1 rfl (Nat.le_of_ble_eq_true rfl) dX6_fold_14 ⟨Nat.zero_le _, Nat.zero_le _⟩) (fun H locs hb3 hP hD hS => ?_)
    refine lv_if_eq (tgt := 43) hx hb dX6_fold_17 (by decide) (fun c4 => ?_) (fun c4 => ?_)
    · have hf := oo_t hf c4
      refine lv_ldc2 (v := (-1002 : Int64)) hx hb hown (hat hts 2 rfl) dX6_fold_43 ?_
      cases hf
      exact hret _ _ _ _ dX6_fold_46 hP hD hS
    · have hf := oo_f hf c4
      refine lv_iload_n hx hb dX6_fold_20 rfl (lv_at hl 3 rfl) ?_
      have F : Fr D A _ [] [] (wdM cI cJ ad mo_pageLength mo_page mo_nodes mo_links mo_fromOf mo_toOf mo_width mo_drawn mo_seed mo_bundleOf mo_netsRead mo_sent mo_passagesEver mo_astrayEver mo_loopsEver mo_newNodes mo_newPairs mo_due mo_newOne mo_newFrom mo_newTo mo_marks mo_drawing mo_leftOf mo_wayMany mo_wayAt mo_bitsNow mo_passages mo_astray mo_loops mo_steps mo_reached mo_others mo_h) := fr_nil hP hD hS hA
      refine kZ F hS (rS (As := [.int x3]) (rest := []) ⟨hx, hb, hml, hown, hts⟩ hK hN F (c_X6_isVariant l D cI cJ ad _  x3 (o_res := (f_X6_isVariant x3)) rfl) (cwS 1 hts gX6_fold_X6_isVariant rfl rfl rfl (by decide +kernel) ⟨Nat.le_of_ble_eq_true rfl, Nat.le_of_ble_eq_true rfl⟩) rfl hl.1 rfl (Nat.le_of_ble_eq_true rfl) dX6_fold_21 ⟨Nat.zero_le _, Nat.zero_le _⟩) (fun H locs hb5 hP hD hS => ?_)
      refine lv_if_eq (tgt := 43) hx hb dX6_fold_24 (by decide) (fun c6 => ?_) (fun c6 => ?_)
      · have hf := oo_t hf c6
        refine lv_ldc2 (v := (-1002 : Int64)) hx hb hown (hat hts 2 rfl) dX6_fold_43 ?_
        cases hf
        exact hret _ _ _ _ dX6_fold_46 hP hD hS
      · have hf := oo_f hf c6
        refine lv_aload_n hx hb dX6_fold_27 rfl (lv_at hl 0 rfl) ?_
        refine lv_aload_n hx hb dX6_fold_28 rfl (lv_at hl 0 rfl) ?_
        refine lv_iload_n hx hb dX6_fold_29 rfl (lv_at hl 1 rfl) ?_
        refine lv_iload_n hx hb dX6_fold_30 rfl (lv_at hl 2 rfl) ?_
        obtain ⟨⟨r8, mo_leftOf_9, mo_wayMany_10, mo_wayAt_11⟩, h7, hf⟩ := oo_b hf
        try dsimp only at hf
        have F : Fr D A _ (wdM cI cJ ad mo_pageLength mo_page mo_nodes mo_links mo_fromOf mo_toOf mo_width mo_drawn mo_seed mo_bundleOf mo_netsRead mo_sent mo_passagesEver mo_astrayEver mo_loopsEver mo_newNodes mo_newPairs mo_due mo_newOne mo_newFrom mo_newTo mo_marks mo_drawing mo_leftOf mo_wayMany mo_wayAt mo_bitsNow mo_passages mo_astray mo_loops mo_steps mo_reached mo_others mo_h) (wdM cI cJ ad mo_pageLength mo_page mo_nodes mo_links mo_fromOf mo_toOf mo_width mo_drawn mo_seed mo_bundleOf mo_netsRead mo_sent mo_passagesEver mo_astrayEver mo_loopsEver mo_newNodes mo_newPairs mo_due mo_newOne mo_newFrom mo_newTo mo_marks mo_drawing mo_leftOf_9 mo_wayMany_10 mo_wayAt_11 mo_bitsNow mo_passages mo_astray mo_loops mo_steps mo_reached mo_others mo_h) (wdM cI cJ ad mo_pageLength mo_page mo_nodes mo_links mo_fromOf mo_toOf mo_width mo_drawn mo_seed mo_bundleOf mo_netsRead mo_sent mo_passagesEver mo_astrayEver mo_loopsEver mo_newNodes mo_newPairs mo_due mo_newOne mo_newFrom mo_newTo mo_marks mo_drawing mo_leftOf_9 mo_wayMany_10 mo_wayAt_11 mo_bitsNow mo_passages mo_astray mo_loops mo_steps mo_reached mo_others mo_h) := fr_self hP hD hS hA
        refine kI F hS (rV (q := (RX6, TX6, 34)) (As := [.int x1, .int x2]) (rest := [.ref (ad 15)]) ⟨hx, hb, hml, hown, hts⟩ hK hN F (c_X6_treeOf l D cI cJ ad _ (mo_pageLength := mo_pageLength) (mo_page := mo_page) (mo_nodes := mo_nodes) (mo_links := mo_links) (mo_fromOf := mo_fromOf) (mo_toOf := mo_toOf) (mo_width := mo_width) (mo_drawn := mo_drawn) (mo_seed := mo_seed) (mo_bundleOf := mo_bundleOf) (mo_netsRead := mo_netsRead) (mo_sent := mo_sent) (mo_passagesEver := mo_passagesEver) (mo_astrayEver := mo_astrayEver) (mo_loopsEver := mo_loopsEver) (mo_newNodes := mo_newNodes) (mo_newPairs := mo_newPairs) (mo_due := mo_due) (mo_newOne := mo_newOne) (mo_newFrom := mo_newFrom) (mo_newTo := mo_newTo) (mo_marks := mo_marks) (mo_drawing := mo_drawing) (mo_leftOf := mo_leftOf) (mo_wayMany := mo_wayMany) (mo_wayAt := mo_wayAt) (mo_bitsNow := mo_bitsNow) (mo_passages := mo_passages) (mo_astray := mo_astray) (mo_loops := mo_loops) (mo_steps := mo_steps) (mo_reached := mo_reached) (mo_others := mo_others) (mo_h := mo_h) x1 x2 (o_res := r8) (o_mo_leftOf := mo_leftOf_9) (o_mo_wayMany := mo_wayMany_10) (o_mo_wayAt := mo_wayAt_11) h7) (cwV 2 hts gX6_fold_X6_treeOf rfl rfl rfl (by decide +kernel) ⟨Nat.le_of_ble_eq_true rfl, Nat.le_of_ble_eq_true rfl⟩) (ci := 6) rfl rfl rfl hl.1 rfl (Nat.le_of_ble_eq_true rfl) dX6_fold_31 ⟨Nat.zero_le _, Nat.zero_le _⟩) (fun H locs hP hD hS => ?_)
        refine lv_iload_n hx hb dX6_fold_34 rfl (lv_at hl 3 rfl) ?_
        refine lv_iload hx hb dX6_fold_35 (lv_at hl 4 rfl) ?_
        obtain ⟨r14, h13, hf⟩ := oo_b hf
        try dsimp only at hf
        have F : Fr D A _ (wdM cI cJ ad mo_pageLength mo_page mo_nodes mo_links mo_fromOf mo_toOf mo_width mo_drawn mo_seed mo_bundleOf mo_netsRead mo_sent mo_passagesEver mo_astrayEver mo_loopsEver mo_newNodes mo_newPairs mo_due mo_newOne mo_newFrom mo_newTo mo_marks mo_drawing mo_leftOf_9 mo_wayMany_10 mo_wayAt_11 mo_bitsNow mo_passages mo_astray mo_loops mo_steps mo_reached mo_others mo_h) (wdM cI cJ ad mo_pageLength mo_page mo_nodes mo_links mo_fromOf mo_toOf mo_width mo_drawn mo_seed mo_bundleOf mo_netsRead mo_sent mo_passagesEver mo_astrayEver mo_loopsEver mo_newNodes mo_newPairs mo_due mo_newOne mo_newFrom mo_newTo mo_marks mo_drawing mo_leftOf_9 mo_wayMany_10 mo_wayAt_11 mo_bitsNow mo_passages mo_astray mo_loops mo_steps mo_reached mo_others mo_h) (wdM cI cJ ad mo_pageLength mo_page mo_nodes mo_links mo_fromOf mo_toOf mo_width mo_drawn mo_seed mo_bundleOf mo_netsRead mo_sent mo_passagesEver mo_astrayEver mo_loopsEver mo_newNodes mo_newPairs mo_due mo_newOne mo_newFrom mo_newTo mo_marks mo_drawing mo_leftOf_9 mo_wayMany_10 mo_wayAt_11 mo_bitsNow mo_passages mo_astray mo_loops mo_steps mo_reached mo_others mo_h) := fr_self hP hD hS hA
        refine kL F hS (rV (q := (RX6, TX6, 34)) (As := [.int r8, .int x3, .int x4]) (rest := []) ⟨hx, hb, hml, hown, hts⟩ hK hN F (c_X6_foldOf l D cI cJ ad _ (mo_pageLength := mo_pageLength) (mo_page := mo_page) (mo_nodes := mo_nodes) (mo_links := mo_links) (mo_fromOf := mo_fromOf) (mo_toOf := mo_toOf) (mo_width := mo_width) (mo_drawn := mo_drawn) (mo_seed := mo_seed) (mo_bundleOf := mo_bundleOf) (mo_netsRead := mo_netsRead) (mo_sent := mo_sent) (mo_passagesEver := mo_passagesEver) (mo_astrayEver := mo_astrayEver) (mo_loopsEver := mo_loopsEver) (mo_newNodes := mo_newNodes) (mo_newPairs := mo_newPairs) (mo_due := mo_due) (mo_newOne := mo_newOne) (mo_newFrom := mo_newFrom) (mo_newTo := mo_newTo) (mo_marks := mo_marks) (mo_drawing := mo_drawing) (mo_leftOf := mo_leftOf_9) (mo_wayMany := mo_wayMany_10) (mo_wayAt := mo_wayAt_11) (mo_bitsNow := mo_bitsNow) (mo_passages := mo_passages) (mo_astray := mo_astray) (mo_loops := mo_loops) (mo_steps := mo_steps) (mo_reached := mo_reached) (mo_others := mo_others) (mo_h := mo_h) r8 x3 x4 (o_res := r14) h13) (cwV 3 hts gX6_fold_X6_foldOf rfl rfl rfl (by decide +kernel) ⟨Nat.le_of_ble_eq_true rfl, Nat.le_of_ble_eq_true rfl⟩) (ci := 6) rfl rfl rfl hl.1 rfl (Nat.le_of_ble_eq_true rfl) dX6_fold_37 ⟨Nat.zero_le _, Nat.zero_le _⟩) (fun H locs hP hD hS => ?_)
        refine lv_goto (tgt := 46) hx hb dX6_fold_40 (by decide) ?_
        cases hf
        exact hret _ _ _ _ dX6_fold_46 hP hD hS
  · have hf := oo_t hf c2
    refine lv_ldc2 (v := (-1001 : Int64)) hx hb hown (hat hts 1 rfl) dX6_fold_8 ?_
    cases hf
    exact hret _ _ _ _ dX6_fold_11 hP hD hS
def f_X6_matches_L33 (mo_bundleOf : Nat → Int32) (mo_marks : Nat → Int64) (x1 : Int32) (x2 : Int64) (x4 : Int32) : Nat → Int32 → Int32 → Option (Int32)
  | 0, _, _ => none
  | n + 1, x5_a33, x6_a33 =>
      if (4 : Int32) ≤ x6_a33 then
        some x5_a33
      else
        Option.bind (α := Int32) (if x5_a33 = (0 : Int32) then
            if x6_a33 < 0 ∨ 4 ≤ (x6_a33).toNatClampNeg then none else
            if (f_X6_has (mo_bundleOf (x6_a33).toNatClampNeg) x1) = (0 : Int32) then
              some (0 : Int32)
            else
              if ((((20 : Int32) * x4) + (16 : Int32)) + x6_a33) < 0 ∨ 60 ≤ (((((20 : Int32) * x4) + (16 : Int32)) + x6_a33)).toNatClampNeg then none else
              if (lg_cmp ((mo_marks (((((20 : Int32) * x4) + (16 : Int32)) + x6_a33)).toNatClampNeg) &&& (x2 ^^^ (-1 : Int64))) (0 : Int64)) = (0 : Int32) then
                some (1 : Int32)
              else
                some (0 : Int32)
          else
            some (1 : Int32)) fun k_7 =>
        f_X6_matches_L33 mo_bundleOf mo_marks x1 x2 x4 n k_7 (x6_a33 + (1 : Int32))
theorem f_X6_matches_L33_s (mo_bundleOf : Nat → Int32) (mo_marks : Nat → Int64) (x1 : Int32) (x2 : Int64) (x4 : Int32) (n : Nat) (x5_a33 : Int32) (x6_a33 : Int32) : f_X6_matches_L33 mo_bundleOf mo_marks x1 x2 x4 (n + 1) x5_a33 x6_a33 =
      (if (4 : Int32) ≤ x6_a33 then
        some x5_a33
      else
        Option.bind (α := Int32) (if x5_a33 = (0 : Int32) then
            if x6_a33 < 0 ∨ 4 ≤ (x6_a33).toNatClampNeg then none else
            if (f_X6_has (mo_bundleOf (x6_a33).toNatClampNeg) x1) = (0 : Int32) then
              some (0 : Int32)
            else
              if ((((20 : Int32) * x4) + (16 : Int32)) + x6_a33) < 0 ∨ 60 ≤ (((((20 : Int32) * x4) + (16 : Int32)) + x6_a33)).toNatClampNeg then none else
              if (lg_cmp ((mo_marks (((((20 : Int32) * x4) + (16 : Int32)) + x6_a33)).toNatClampNeg) &&& (x2 ^^^ (-1 : Int64))) (0 : Int64)) = (0 : Int32) then
                some (1 : Int32)
              else
                some (0 : Int32)
          else
            some (1 : Int32)) fun k_7 =>
        f_X6_matches_L33 mo_bundleOf mo_marks x1 x2 x4 n k_7 (x6_a33 + (1 : Int32))) := rfl
def f_X6_matches (mo_bundleOf : Nat → Int32) (mo_marks : Nat → Int64) (x1 : Int32) (x2 : Int64) (x4 : Int32) : Option (Int32) :=
  if (((20 : Int32) * x4) + x1) < 0 ∨ 60 ≤ ((((20 : Int32) * x4) + x1)).toNatClampNeg then none else
  Option.bind (f_X6_matches_L33 mo_bundleOf mo_marks x1 x2 x4 100 (if (lg_cmp ((mo_marks ((((20 : Int32) * x4) + x1)).toNatClampNeg) &&& (x2 ^^^ (-1 : Int64))) (0 : Int64)) = (0 : Int32) then (1 : Int32) else (0 : Int32)) (0 : Int32)) fun x5_o4 =>
  if ¬ (x5_o4 = 0 ∨ x5_o4 = 1) then none else some x5_o4
abbrev rm_X6_matches : Room := { frames := 1, cells := 0, slots := 0, locals := 21 }
set_option maxHeartbeats 4000000 in
set_option maxRecDepth 100000 in
theorem c_X6_matches (l : Launch) (D : va_G) (cI cJ : ClassId) (ad : Nat → Nat) (sz : Nat) {mo_pageLength : Int32} {mo_page : Nat → Int32} {mo_nodes mo_links : Int32} {mo_fromOf mo_toOf : Nat → Int32} {mo_width mo_drawn mo_seed : Int32} {mo_bundleOf : Nat → Int32} {mo_netsRead mo_sent mo_passagesEver mo_astrayEver mo_loopsEver mo_newNodes mo_newPairs mo_due mo_newOne : Int32} {mo_newFrom mo_newTo : Nat → Int32} {mo_marks : Nat → Int64} {mo_drawing : Int64} {mo_leftOf : Nat → Int32} {mo_wayMany : Int32} {mo_wayAt : Nat → Int32} {mo_bitsNow : Int64} {mo_passages mo_astray mo_loops mo_steps mo_reached mo_others : Int32} {mo_h : Int64} (x1 : Int32) (x2 : Int64) (x4 : Int32) {o_res : Int32} (hf : f_X6_matches mo_bundleOf mo_marks x1 x2 x4 = some o_res) : CtZ l yX6_matches wsX6_matches rm_X6_matches D cI cJ [.ref (ad 15), .int x1, .long x2, .int x4] (wdM cI cJ ad mo_pageLength mo_page mo_nodes mo_links mo_fromOf mo_toOf mo_width mo_drawn mo_seed mo_bundleOf mo_netsRead mo_sent mo_passagesEver mo_astrayEver mo_loopsEver mo_newNodes mo_newPairs mo_due mo_newOne mo_newFrom mo_newTo mo_marks mo_drawing mo_leftOf mo_wayMany mo_wayAt mo_bitsNow mo_passages mo_astray mo_loops mo_steps mo_reached mo_others mo_h) sz o_res (wdM cI cJ ad mo_pageLength mo_page mo_nodes mo_links mo_fromOf mo_toOf mo_width mo_drawn mo_seed mo_bundleOf mo_netsRead mo_sent mo_passagesEver mo_astrayEver mo_loopsEver mo_newNodes mo_newPairs mo_due mo_newOne mo_newFrom mo_newTo mo_marks mo_drawing mo_leftOf mo_wayMany mo_wayAt mo_bitsNow mo_passages mo_astray mo_loops mo_steps mo_reached mo_others mo_h) := by
  refine ctZ_of (cc := cX6_matches) (maxL := 7) (by decide) rfl (Nat.le_of_ble_eq_true rfl) ?_
  intro p e s m below meth c Q A hx hb hml hown hts hK hN hA hret ls hl hP hD hS
  obtain ⟨args, hargs⟩ : ∃ a : Array Value, a = [.ref (ad 15), .int x1, .long x2, .int x4].toArray := ⟨_, rfl⟩
  rw [← hargs] at hts hret ⊢
  have hown : s.vm.findClass RX6 = some m.cls := hown
  have hl : lv_has ls 7 [(0, .ref (ad 15)), (1, .int x1), (2, .long x2), (4, .int x4)] := hl
  have hin_X6 : ∀ w ∈ wsX60, w ∈ wsX6_matches := fun _ h => List.mem_cons_of_mem _ (List.mem_append_right _ h)
  have fl_29 : (Cond.fieldLink RX6 29 "FoldedWaysModel" "bundleOf" "[I").before args s = true := hat hts 3 rfl
  have fl_38 : (Cond.fieldLink RX6 38 "FoldedWaysModel" "marks" "[J").before args s = true := hat hts 1 rfl
  unfold f_X6_matches at hf
  refine lv_aload_n hx hb dX6_matches_0 rfl (lv_at hl 0 rfl) ?_
  refine va_get (ci := 6) (v := .ref (ad 22)) (C := RX6) (T := TX6) (N := 34) hx hb hts hin_X6 hown hK hP 0 rfl rfl 21 (by decide) fl_38 (fun _ h9 => h9) rfl dX6_matches_1 ?_
  refine lv_bipush (v := (20 : Int32)) hx hb dX6_matches_4 (by decide) ?_
  refine lv_iload hx hb dX6_matches_6 (lv_at hl 3 rfl) ?_
  refine lv_imul hx hb dX6_matches_8 ?_
  refine lv_iload_n hx hb dX6_matches_9 rfl (lv_at hl 1 rfl) ?_
  refine lv_iadd hx hb dX6_matches_10 ?_
  obtain ⟨g1, hf⟩ := oo_g hf
  refine va_lald hx hb hK hP 7 1 rfl rfl g1 dX6_matches_11 ?_
  refine lv_lload_n hx hb dX6_matches_12 rfl (lv_at hl 2 rfl) ?_
  refine lv_ldc2 (v := (-1 : Int64)) hx hb hown (hat hts 2 rfl) dX6_matches_13 ?_
  refine lv_lxor hx hb dX6_matches_16 ?_
  refine lv_land hx hb dX6_matches_17 ?_
  refine lv_lconst (v := (0 : Int64)) hx hb dX6_matches_18 (by decide) ?_
  refine W.lcmp hx hb dX6_matches_19 ?_
  have kj3 : ∀ (k_2 : Int32), k_2 = (if (lg_cmp ((mo_marks ((((20 : Int32) * x4) + x1)).toNatClampNeg) &&& (x2 ^^^ (-1 : Int64))) (0 : Int64)) = (0 : Int32) then (1 : Int32) else (0 : Int32)) → ∀ (H : Heap) (locs : List Loc) (ls : Array Slot), va_P D vwCl (wdM cI cJ ad mo_pageLength mo_page mo_nodes mo_links mo_fromOf mo_toOf mo_width mo_drawn mo_seed mo_bundleOf mo_netsRead mo_sent mo_passagesEver mo_astrayEver mo_loopsEver mo_newNodes mo_newPairs mo_due mo_newOne mo_newFrom mo_newTo mo_marks mo_drawing mo_leftOf mo_wayMany mo_wayAt mo_bitsNow mo_passages mo_astray mo_loops mo_steps mo_reached mo_others mo_h) H → va_D A (wdM cI cJ ad mo_pageLength mo_page mo_nodes mo_links mo_fromOf mo_toOf mo_width mo_drawn mo_seed mo_bundleOf mo_netsRead mo_sent mo_passagesEver mo_astrayEver mo_loopsEver mo_newNodes mo_newPairs mo_due mo_newOne mo_newFrom mo_newTo mo_marks mo_drawing mo_leftOf mo_wayMany mo_wayAt mo_bitsNow mo_passages mo_astray mo_loops mo_steps mo_reached mo_others mo_h) → va_S A s.heap H locs → lv_has ls 7 [(0, .ref (ad 15)), (1, .int x1), (2, .long x2), (4, .int x4)] → W p l e rm_X6_matches s m args below meth c H locs 0 0 Q (F0 m 28 ls [.int k_2]) := by
    intro k_2 ek_2
    subst ek_2
    intro H locs ls hP hD hS hl
    refine lv_istore (lv' := [(5, .int (if (lg_cmp ((mo_marks ((((20 : Int32) * x4) + x1)).toNatClampNeg) &&& (x2 ^^^ (-1 : Int64))) (0 : Int64)) = (0 : Int32) then (1 : Int32) else (0 : Int32))), (0, .ref (ad 15)), (1, .int x1), (2, .long x2), (4, .int x4)]) hx hb dX6_matches_28 hl (by decide) rfl (fun ls hl => ?_)
    refine lv_iconst (v := (0 : Int32)) hx hb dX6_matches_30 (by decide) ?_
    refine lv_istore (lv' := [(6, .int (0 : Int32)), (5, .int (if (lg_cmp ((mo_marks ((((20 : Int32) * x4) + x1)).toNatClampNeg) &&& (x2 ^^^ (-1 : Int64))) (0 : Int64)) = (0 : Int32) then (1 : Int32) else (0 : Int32))), (0, .ref (ad 15)), (1, .int x1), (2, .long x2), (4, .int x4)]) hx hb dX6_matches_31 hl (by decide) rfl (fun ls hl => ?_)
    have lp5 : ∀ (n : Nat) (x5_a33 : Int32) (x6_a33 : Int32) (x5_o4 : Int32), f_X6_matches_L33 mo_bundleOf mo_marks x1 x2 x4 n x5_a33 x6_a33 = some x5_o4 → (∀ (H : Heap) (locs : List Loc) (ls : Array Slot), va_P D vwCl (wdM cI cJ ad mo_pageLength mo_page mo_nodes mo_links mo_fromOf mo_toOf mo_width mo_drawn mo_seed mo_bundleOf mo_netsRead mo_sent mo_passagesEver mo_astrayEver mo_loopsEver mo_newNodes mo_newPairs mo_due mo_newOne mo_newFrom mo_newTo mo_marks mo_drawing mo_leftOf mo_wayMany mo_wayAt mo_bitsNow mo_passages mo_astray mo_loops mo_steps mo_reached mo_others mo_h) H → va_D A (wdM cI cJ ad mo_pageLength mo_page mo_nodes mo_links mo_fromOf mo_toOf mo_width mo_drawn mo_seed mo_bundleOf mo_netsRead mo_sent mo_passagesEver mo_astrayEver mo_loopsEver mo_newNodes mo_newPairs mo_due mo_newOne mo_newFrom mo_newTo mo_marks mo_drawing mo_leftOf mo_wayMany mo_wayAt mo_bitsNow mo_passages mo_astray mo_loops mo_steps mo_reached mo_others mo_h) → va_S A s.heap H locs → lv_has ls 7 [(5, .int x5_o4)] → W p l e rm_X6_matches s m args below meth c H locs 0 0 Q (F0 m 98 ls [])) → ∀ (H : Heap) (locs : List Loc) (ls : Array Slot), va_P D vwCl (wdM cI cJ ad mo_pageLength mo_page mo_nodes mo_links mo_fromOf mo_toOf mo_width mo_drawn mo_seed mo_bundleOf mo_netsRead mo_sent mo_passagesEver mo_astrayEver mo_loopsEver mo_newNodes mo_newPairs mo_due mo_newOne mo_newFrom mo_newTo mo_marks mo_drawing mo_leftOf mo_wayMany mo_wayAt mo_bitsNow mo_passages mo_astray mo_loops mo_steps mo_reached mo_others mo_h) H → va_D A (wdM cI cJ ad mo_pageLength mo_page mo_nodes mo_links mo_fromOf mo_toOf mo_width mo_drawn mo_seed mo_bundleOf mo_netsRead mo_sent mo_passagesEver mo_astrayEver mo_loopsEver mo_newNodes mo_newPairs mo_due mo_newOne mo_newFrom mo_newTo mo_marks mo_drawing mo_leftOf mo_wayMany mo_wayAt mo_bitsNow mo_passages mo_astray mo_loops mo_steps mo_reached mo_others mo_h) → va_S A s.heap H locs → lv_has ls 7 [(0, .ref (ad 15)), (1, .int x1), (2, .long x2), (4, .int x4), (5, .int x5_a33), (6, .int x6_a33)] → W p l e rm_X6_matches s m args below meth c H locs 0 0 Q (F0 m 33 ls []) := by
      intro n
      induction n with
      | zero =>
        intro x5_a33 x6_a33 x5_o4 h0
        exact oo_n h0
      | succ n ih =>
        intro x5_a33 x6_a33 x5_o4 hf kk H locs ls hP hD hS hl
        rw [f_X6_matches_L33_s] at hf
        refine lv_iload hx hb dX6_matches_33 (lv_at hl 5 rfl) ?_
        refine lv_iconst (v := (4 : Int32)) hx hb dX6_matches_35 (by decide) ?_
        refine lv_icmp_ge (tgt := 98) hx hb dX6_matches_36 (by decide) (fun c6 => ?_) (fun c6 => ?_)
        · have hf := oo_t hf c6
          cases hf
          exact kk _ _ _ hP hD hS (lv_sub hl [4] rfl)
        · have hf := oo_f hf c6
          refine lv_iload hx hb dX6_matches_39 (lv_at hl 4 rfl) ?_
          obtain ⟨k_7, hj9, hf⟩ := oo_b hf
          try dsimp only at hf
          have kj8 : ∀ (H : Heap) (locs : List Loc) (ls : Array Slot), va_P D vwCl (wdM cI cJ ad mo_pageLength mo_page mo_nodes mo_links mo_fromOf mo_toOf mo_width mo_drawn mo_seed mo_bundleOf mo_netsRead mo_sent mo_passagesEver mo_astrayEver mo_loopsEver mo_newNodes mo_newPairs mo_due mo_newOne mo_newFrom mo_newTo mo_marks mo_drawing mo_leftOf mo_wayMany mo_wayAt mo_bitsNow mo_passages mo_astray mo_loops mo_steps mo_reached mo_others mo_h) H → va_D A (wdM cI cJ ad mo_pageLength mo_page mo_nodes mo_links mo_fromOf mo_toOf mo_width mo_drawn mo_seed mo_bundleOf mo_netsRead mo_sent mo_passagesEver mo_astrayEver mo_loopsEver mo_newNodes mo_newPairs mo_due mo_newOne mo_newFrom mo_newTo mo_marks mo_drawing mo_leftOf mo_wayMany mo_wayAt mo_bitsNow mo_passages mo_astray mo_loops mo_steps mo_reached mo_others mo_h) → va_S A s.heap H locs → lv_has ls 7 [(0, .ref (ad 15)), (1, .int x1), (2, .long x2), (4, .int x4), (6, .int x6_a33)] → W p l e rm_X6_matches s m args below meth c H locs 0 0 Q (F0 m 90 ls [.int k_7]) := by
            intro H locs ls hP hD hS hl
            refine lv_istore (lv' := [(5, .int k_7), (0, .ref (ad 15)), (1, .int x1), (2, .long x2), (4, .int x4), (6, .int x6_a33)]) hx hb dX6_matches_90 hl (by decide) rfl (fun ls hl => ?_)
            refine lv_iinc (v := (x6_a33 + (1 : Int32))) (lv' := [(6, .int (x6_a33 + (1 : Int32))), (5, .int k_7), (0, .ref (ad 15)), (1, .int x1), (2, .long x2), (4, .int x4)]) hx hb dX6_matches_92 hl (k := 5) rfl rfl (by decide) rfl (fun ls hl => ?_)
            refine lv_goto (tgt := 33) hx hb dX6_matches_95 (by decide) ?_
            exact ih k_7 (x6_a33 + (1 : Int32)) _ hf kk _ _ _ hP hD hS (lv_sub hl [2, 3, 4, 5, 1, 0] rfl)
          clear hf
          have hf := hj9
          clear hj9
          refine lv_if_ne (tgt := 85) hx hb dX6_matches_41 (by decide) (fun c10 => ?_) (fun c10 => ?_)
          · have hf := oo_f hf c10
            refine lv_iconst (v := (1 : Int32)) hx hb dX6_matches_85 (by decide) ?_
            refine lv_goto (tgt := 90) hx hb dX6_matches_86 (by decide) ?_
            cases hf
            exact kj8 _ _ _ hP hD hS (lv_sub hl [0, 1, 2, 3, 5] rfl)
          · have hf := oo_t hf c10
            refine lv_aload_n hx hb dX6_matches_44 rfl (lv_at hl 0 rfl) ?_
            refine va_get (ci := 6) (v := .ref (ad 19)) (C := RX6) (T := TX6) (N := 34) hx hb hts hin_X6 hown hK hP 0 rfl rfl 9 (by decide) fl_29 (fun _ h9 => h9) rfl dX6_matches_45 ?_
            refine lv_iload hx hb dX6_matches_48 (lv_at hl 5 rfl) ?_
            obtain ⟨g11, hf⟩ := oo_g hf
            refine va_iald hx hb hK hP 4 0 rfl rfl g11 dX6_matches_50 ?_
            refine lv_iload_n hx hb dX6_matches_51 rfl (lv_at hl 1 rfl) ?_
            have F : Fr D A _ [] [] (wdM cI cJ ad mo_pageLength mo_page mo_nodes mo_links mo_fromOf mo_toOf mo_width mo_drawn mo_seed mo_bundleOf mo_netsRead mo_sent mo_passagesEver mo_astrayEver mo_loopsEver mo_newNodes mo_newPairs mo_due mo_newOne mo_newFrom mo_newTo mo_marks mo_drawing mo_leftOf mo_wayMany mo_wayAt mo_bitsNow mo_passages mo_astray mo_loops mo_steps mo_reached mo_others mo_h) := fr_nil hP hD hS hA
            refine kZ F hS (rS (As := [.int (mo_bundleOf (x6_a33).toNatClampNeg), .int x1]) (rest := []) ⟨hx, hb, hml, hown, hts⟩ hK hN F (c_X6_has l D cI cJ ad _  (mo_bundleOf (x6_a33).toNatClampNeg) x1 (o_res := (f_X6_has (mo_bundleOf (x6_a33).toNatClampNeg) x1)) rfl) (cwS 2 hts gX6_matches_X6_has rfl rfl rfl (by decide +kernel) ⟨Nat.le_of_ble_eq_true rfl, Nat.le_of_ble_eq_true rfl⟩) rfl hl.1 rfl (Nat.le_of_ble_eq_true rfl) dX6_matches_52 ⟨Nat.zero_le _, Nat.zero_le _⟩) (fun H locs hb12 hP hD hS => ?_)
            refine lv_if_eq (tgt := 89) hx hb dX6_matches_55 (by decide) (fun c13 => ?_) (fun c13 => ?_)
            · have hf := oo_t hf c13
              refine lv_iconst (v := (0 : Int32)) hx hb dX6_matches_89 (by decide) ?_
              cases hf
              exact kj8 _ _ _ hP hD hS (lv_sub hl [0, 1, 2, 3, 5] rfl)
            · have hf := oo_f hf c13
              refine lv_aload_n hx hb dX6_matches_58 rfl (lv_at hl 0 rfl) ?_
              refine va_get (ci := 6) (v := .ref (ad 22)) (C := RX6) (T := TX6) (N := 34) hx hb hts hin_X6 hown hK hP 0 rfl rfl 21 (by decide) fl_38 (fun _ h9 => h9) rfl dX6_matches_59 ?_
              refine lv_bipush (v := (20 : Int32)) hx hb dX6_matches_62 (by decide) ?_
              refine lv_iload hx hb dX6_matches_64 (lv_at hl 3 rfl) ?_
              refine lv_imul hx hb dX6_matches_66 ?_
              refine lv_bipush (v := (16 : Int32)) hx hb dX6_matches_67 (by decide) ?_
              refine lv_iadd hx hb dX6_matches_69 ?_
              refine lv_iload hx hb dX6_matches_70 (lv_at hl 5 rfl) ?_
              refine lv_iadd hx hb dX6_matches_72 ?_
              obtain ⟨g14, hf⟩ := oo_g hf
              refine va_lald hx hb hK hP 7 1 rfl rfl g14 dX6_matches_73 ?_
              refine lv_lload_n hx hb dX6_matches_74 rfl (lv_at hl 2 rfl) ?_
              refine lv_ldc2 (v := (-1 : Int64)) hx hb hown (hat hts 2 rfl) dX6_matches_75 ?_
              refine lv_lxor hx hb dX6_matches_78 ?_
              refine lv_land hx hb dX6_matches_79 ?_
              refine lv_lconst (v := (0 : Int64)) hx hb dX6_matches_80 (by decide) ?_
              refine W.lcmp hx hb dX6_matches_81 ?_
              refine lv_if_ne (tgt := 89) hx hb dX6_matches_82 (by decide) (fun c15 => ?_) (fun c15 => ?_)
              · have hf := oo_f hf c15
                refine lv_iconst (v := (0 : Int32)) hx hb dX6_matches_89 (by decide) ?_
                cases hf
                exact kj8 _ _ _ hP hD hS (lv_sub hl [0, 1, 2, 3, 5] rfl)
              · have hf := oo_t hf c15
                refine lv_iconst (v := (1 : Int32)) hx hb dX6_matches_85 (by decide) ?_
                refine lv_goto (tgt := 90) hx hb dX6_matches_86 (by decide) ?_
                cases hf
                exact kj8 _ _ _ hP hD hS (lv_sub hl [0, 1, 2, 3, 5] rfl)
    obtain ⟨x5_o4, h16, hf⟩ := oo_b hf
    try dsimp only at hf
    refine lp5  100 (if (lg_cmp ((mo_marks ((((20 : Int32) * x4) + x1)).toNatClampNeg) &&& (x2 ^^^ (-1 : Int64))) (0 : Int64)) = (0 : Int32) then (1 : Int32) else (0 : Int32)) (0 : Int32) x5_o4 h16 (fun H locs ls hP hD hS hl => ?_) _ _ _ hP hD hS (lv_sub hl [2, 3, 4, 5, 1, 0] rfl)
    refine lv_iload hx hb dX6_matches_98 (lv_at hl 0 rfl) ?_
    obtain ⟨hz17, hf⟩ := oo_g hf
    replace hz17 := Decidable.not_not.mp hz17
    cases hf
    exact hret _ _ _ _ hz17 dX6_matches_100 hP hD hS
  refine lv_if_ne (tgt := 27) hx hb dX6_matches_20 (by decide) (fun c18 => ?_) (fun c18 => ?_)
  · refine lv_iconst (v := (0 : Int32)) hx hb dX6_matches_27 (by decide) ?_
    exact kj3 (0 : Int32) (if_neg c18).symm _ _ _ hP hD hS (lv_sub hl [0, 1, 2, 3] rfl)
  · refine lv_iconst (v := (1 : Int32)) hx hb dX6_matches_23 (by decide) ?_
    refine lv_goto (tgt := 28) hx hb dX6_matches_24 (by decide) ?_
    exact kj3 (1 : Int32) (if_pos c18).symm _ _ _ hP hD hS (lv_sub hl [0, 1, 2, 3] rfl)
