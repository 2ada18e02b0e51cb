def f_X6_digest_L19 (mo_fromOf : Nat → Int32) (mo_toOf : Nat → Int32) (mo_bundleOf : Nat → Int32) (x1_a9 : Int32) : Nat → Int64 → Int32 → Option (Int64)
  | 0, _, _ => none
  | n + 1, mo_h_a19, x2_a19 =>
      if (3 : Int32) ≤ x2_a19 then
        some mo_h_a19
      else
        Option.bind (f_X6_linkNow mo_fromOf mo_toOf mo_bundleOf x1_a9 x2_a19) fun r8 =>
        f_X6_digest_L19 mo_fromOf mo_toOf mo_bundleOf x1_a9 n (f_X6_mix mo_h_a19 ((r8).toInt64)) (x2_a19 + (1 : Int32))
theorem f_X6_digest_L19_s (mo_fromOf : Nat → Int32) (mo_toOf : Nat → Int32) (mo_bundleOf : Nat → Int32) (x1_a9 : Int32) (n : Nat) (mo_h_a19 : Int64) (x2_a19 : Int32) : f_X6_digest_L19 mo_fromOf mo_toOf mo_bundleOf x1_a9 (n + 1) mo_h_a19 x2_a19 =
      (if (3 : Int32) ≤ x2_a19 then
        some mo_h_a19
      else
        Option.bind (f_X6_linkNow mo_fromOf mo_toOf mo_bundleOf x1_a9 x2_a19) fun r8 =>
        f_X6_digest_L19 mo_fromOf mo_toOf mo_bundleOf x1_a9 n (f_X6_mix mo_h_a19 ((r8).toInt64)) (x2_a19 + (1 : Int32))) := rfl
def f_X6_digest_L43 (mo_marks : Nat → Int64) (x1_a9 : Int32) : Nat → Int64 → Int32 → Option (Int64)
  | 0, _, _ => none
  | n + 1, mo_h_a43, x2_a43 =>
      if (3 : Int32) ≤ x2_a43 then
        some mo_h_a43
      else
        if (((20 : Int32) * x2_a43) + x1_a9) < 0 ∨ 60 ≤ ((((20 : Int32) * x2_a43) + x1_a9)).toNatClampNeg then none else
        f_X6_digest_L43 mo_marks x1_a9 n (f_X6_mix mo_h_a43 (mo_marks ((((20 : Int32) * x2_a43) + x1_a9)).toNatClampNeg)) (x2_a43 + (1 : Int32))
theorem f_X6_digest_L43_s (mo_marks : Nat → Int64) (x1_a9 : Int32) (n : Nat) (mo_h_a43 : Int64) (x2_a43 : Int32) : f_X6_digest_L43 mo_marks x1_a9 (n + 1) mo_h_a43 x2_a43 =
      (if (3 : Int32) ≤ x2_a43 then
        some mo_h_a43
      else
        if (((20 : Int32) * x2_a43) + x1_a9) < 0 ∨ 60 ≤ ((((20 : Int32) * x2_a43) + x1_a9)).toNatClampNeg then none else
        f_X6_digest_L43 mo_marks x1_a9 n (f_X6_mix mo_h_a43 (mo_marks ((((20 : Int32) * x2_a43) + x1_a9)).toNatClampNeg)) (x2_a43 + (1 : Int32))) := rfl
def f_X6_digest_L9 (mo_links : Int32) (mo_fromOf : Nat → Int32) (mo_toOf : Nat → Int32) (mo_bundleOf : Nat → Int32) (mo_marks : Nat → Int64) : Nat → Int64 → Int32 → Option (Int64)
  | 0, _, _ => none
  | n + 1, mo_h_a9, x1_a9 =>
      if mo_links ≤ x1_a9 then
        some mo_h_a9
      else
        Option.bind (f_X6_digest_L19 mo_fromOf mo_toOf mo_bundleOf x1_a9 100 mo_h_a9 (0 : Int32)) fun mo_h_o4 =>
        Option.bind (f_X6_digest_L43 mo_marks x1_a9 100 mo_h_o4 (0 : Int32)) fun mo_h_o12 =>
        f_X6_digest_L9 mo_links mo_fromOf mo_toOf mo_bundleOf mo_marks n mo_h_o12 (x1_a9 + (1 : Int32))
theorem f_X6_digest_L9_s (mo_links : Int32) (mo_fromOf : Nat → Int32) (mo_toOf : Nat → Int32) (mo_bundleOf : Nat → Int32) (mo_marks : Nat → Int64) (n : Nat) (mo_h_a9 : Int64) (x1_a9 : Int32) : f_X6_digest_L9 mo_links mo_fromOf mo_toOf mo_bundleOf mo_marks (n + 1) mo_h_a9 x1_a9 =
      (if mo_links ≤ x1_a9 then
        some mo_h_a9
      else
        Option.bind (f_X6_digest_L19 mo_fromOf mo_toOf mo_bundleOf x1_a9 100 mo_h_a9 (0 : Int32)) fun mo_h_o4 =>
        Option.bind (f_X6_digest_L43 mo_marks x1_a9 100 mo_h_o4 (0 : Int32)) fun mo_h_o12 =>
        f_X6_digest_L9 mo_links mo_fromOf mo_toOf mo_bundleOf mo_marks n mo_h_o12 (x1_a9 + (1 : Int32))) := rfl
def f_X6_digest_L99 (mo_marks : Nat → Int64) (x1_a77 : Int32) : Nat → Int64 → Int32 → Option (Int64)
  | 0, _, _ => none
  | n + 1, mo_h_a99, x2_a99 =>
      if (3 : Int32) ≤ x2_a99 then
        some mo_h_a99
      else
        if ((((20 : Int32) * x2_a99) + (16 : Int32)) + x1_a77) < 0 ∨ 60 ≤ (((((20 : Int32) * x2_a99) + (16 : Int32)) + x1_a77)).toNatClampNeg then none else
        f_X6_digest_L99 mo_marks x1_a77 n (f_X6_mix mo_h_a99 (mo_marks (((((20 : Int32) * x2_a99) + (16 : Int32)) + x1_a77)).toNatClampNeg)) (x2_a99 + (1 : Int32))
theorem f_X6_digest_L99_s (mo_marks : Nat → Int64) (x1_a77 : Int32) (n : Nat) (mo_h_a99 : Int64) (x2_a99 : Int32) : f_X6_digest_L99 mo_marks x1_a77 (n + 1) mo_h_a99 x2_a99 =
      (if (3 : Int32) ≤ x2_a99 then
        some mo_h_a99
      else
        if ((((20 : Int32) * x2_a99) + (16 : Int32)) + x1_a77) < 0 ∨ 60 ≤ (((((20 : Int32) * x2_a99) + (16 : Int32)) + x1_a77)).toNatClampNeg then none else
        f_X6_digest_L99 mo_marks x1_a77 n (f_X6_mix mo_h_a99 (mo_marks (((((20 : Int32) * x2_a99) + (16 : Int32)) + x1_a77)).toNatClampNeg)) (x2_a99 + (1 : Int32))) := rfl
def f_X6_digest_L77 (mo_bundleOf : Nat → Int32) (mo_marks : Nat → Int64) : Nat → Int64 → Int32 → Option (Int64)
  | 0, _, _ => none
  | n + 1, mo_h_a77, x1_a77 =>
      if (4 : Int32) ≤ x1_a77 then
        some mo_h_a77
      else
        if x1_a77 < 0 ∨ 4 ≤ (x1_a77).toNatClampNeg then none else
        Option.bind (α := Int64) (if (mo_bundleOf (x1_a77).toNatClampNeg) = (0 : Int32) then
            some mo_h_a77
          else
            Option.bind (f_X6_digest_L99 mo_marks x1_a77 100 (f_X6_mix mo_h_a77 ((x1_a77).toInt64)) (0 : Int32)) fun mo_h_o28 =>
            some mo_h_o28) fun mo_h_23 =>
        f_X6_digest_L77 mo_bundleOf mo_marks n mo_h_23 (x1_a77 + (1 : Int32))
theorem f_X6_digest_L77_s (mo_bundleOf : Nat → Int32) (mo_marks : Nat → Int64) (n : Nat) (mo_h_a77 : Int64) (x1_a77 : Int32) : f_X6_digest_L77 mo_bundleOf mo_marks (n + 1) mo_h_a77 x1_a77 =
      (if (4 : Int32) ≤ x1_a77 then
        some mo_h_a77
      else
        if x1_a77 < 0 ∨ 4 ≤ (x1_a77).toNatClampNeg then none else
        Option.bind (α := Int64) (if (mo_bundleOf (x1_a77).toNatClampNeg) = (0 : Int32) then
            some mo_h_a77
          else
            Option.bind (f_X6_digest_L99 mo_marks x1_a77 100 (f_X6_mix mo_h_a77 ((x1_a77).toInt64)) (0 : Int32)) fun mo_h_o28 =>
            some mo_h_o28) fun mo_h_23 =>
        f_X6_digest_L77 mo_bundleOf mo_marks n mo_h_23 (x1_a77 + (1 : Int32))) := rfl
def f_X6_digest_L136 (mo_nodes : Int32) (mo_links : Int32) (mo_fromOf : Nat → Int32) (mo_toOf : Nat → Int32) (mo_width : Int32) (mo_drawn : Int32) (mo_bundleOf : Nat → Int32) (mo_marks : Nat → Int64) : Nat → (Nat → Int32) → Int32 → (Nat → Int32) → Int64 → Int32 → Int32 → Int32 → Int32 → Int32 → Int32 → Int64 → Int32 → Option ((Nat → Int32) × Int32 × (Nat → Int32) × Int64 × Int32 × Int32 × Int32 × Int32 × Int32 × Int32 × Int64)
  | 0, _, _, _, _, _, _, _, _, _, _, _, _ => none
  | n + 1, mo_leftOf_a136, mo_wayMany_a136, mo_wayAt_a136, mo_bitsNow_a136, mo_passages_a136, mo_astray_a136, mo_loops_a136, mo_steps_a136, mo_reached_a136, mo_others_a136, mo_h_a136, x1_a136 =>
      if mo_nodes ≤ x1_a136 then
        some (mo_leftOf_a136, mo_wayMany_a136, mo_wayAt_a136, mo_bitsNow_a136, mo_passages_a136, mo_astray_a136, mo_loops_a136, mo_steps_a136, mo_reached_a136, mo_others_a136, mo_h_a136)
      else
        Option.bind (f_X6_mixNode mo_nodes mo_links mo_fromOf mo_toOf mo_width mo_drawn mo_bundleOf mo_marks mo_leftOf_a136 mo_wayMany_a136 mo_wayAt_a136 mo_bitsNow_a136 mo_passages_a136 mo_astray_a136 mo_loops_a136 mo_steps_a136 mo_reached_a136 mo_others_a136 mo_h_a136 x1_a136) fun (mo_leftOf_49, mo_wayMany_50, mo_wayAt_51, mo_bitsNow_52, mo_passages_53, mo_astray_54, mo_loops_55, mo_steps_56, mo_reached_57, mo_others_58, mo_h_59) =>
        f_X6_digest_L136 mo_nodes mo_links mo_fromOf mo_toOf mo_width mo_drawn mo_bundleOf mo_marks n mo_leftOf_49 mo_wayMany_50 mo_wayAt_51 mo_bitsNow_52 mo_passages_53 mo_astray_54 mo_loops_55 mo_steps_56 mo_reached_57 mo_others_58 mo_h_59 (x1_a136 + (1 : Int32))
theorem f_X6_digest_L136_s (mo_nodes : Int32) (mo_links : Int32) (mo_fromOf : Nat → Int32) (mo_toOf : Nat → Int32) (mo_width : Int32) (mo_drawn : Int32) (mo_bundleOf : Nat → Int32) (mo_marks : Nat → Int64) (n : Nat) (mo_leftOf_a136 : Nat → Int32) (mo_wayMany_a136 : Int32) (mo_wayAt_a136 : Nat → Int32) (mo_bitsNow_a136 : Int64) (mo_passages_a136 : Int32) (mo_astray_a136 : Int32) (mo_loops_a136 : Int32) (mo_steps_a136 : Int32) (mo_reached_a136 : Int32) (mo_others_a136 : Int32) (mo_h_a136 : Int64) (x1_a136 : Int32) : f_X6_digest_L136 mo_nodes mo_links mo_fromOf mo_toOf mo_width mo_drawn mo_bundleOf mo_marks (n + 1) mo_leftOf_a136 mo_wayMany_a136 mo_wayAt_a136 mo_bitsNow_a136 mo_passages_a136 mo_astray_a136 mo_loops_a136 mo_steps_a136 mo_reached_a136 mo_others_a136 mo_h_a136 x1_a136 =
      (if mo_nodes ≤ x1_a136 then
        some (mo_leftOf_a136, mo_wayMany_a136, mo_wayAt_a136, mo_bitsNow_a136, mo_passages_a136, mo_astray_a136, mo_loops_a136, mo_steps_a136, mo_reached_a136, mo_others_a136, mo_h_a136)
      else
        Option.bind (f_X6_mixNode mo_nodes mo_links mo_fromOf mo_toOf mo_width mo_drawn mo_bundleOf mo_marks mo_leftOf_a136 mo_wayMany_a136 mo_wayAt_a136 mo_bitsNow_a136 mo_passages_a136 mo_astray_a136 mo_loops_a136 mo_steps_a136 mo_reached_a136 mo_others_a136 mo_h_a136 x1_a136) fun (mo_leftOf_49, mo_wayMany_50, mo_wayAt_51, mo_bitsNow_52, mo_passages_53, mo_astray_54, mo_loops_55, mo_steps_56, mo_reached_57, mo_others_58, mo_h_59) =>
        f_X6_digest_L136 mo_nodes mo_links mo_fromOf mo_toOf mo_width mo_drawn mo_bundleOf mo_marks n mo_leftOf_49 mo_wayMany_50 mo_wayAt_51 mo_bitsNow_52 mo_passages_53 mo_astray_54 mo_loops_55 mo_steps_56 mo_reached_57 mo_others_58 mo_h_59 (x1_a136 + (1 : Int32))) := rfl
def f_X6_digest_L157 (mo_pageLength : Int32) (mo_page : Nat → Int32) : Nat → Int64 → Int32 → Option (Int64)
  | 0, _, _ => none
  | n + 1, mo_h_a157, x1_a157 =>
      if mo_pageLength ≤ x1_a157 then
        some mo_h_a157
      else
        if x1_a157 < 0 ∨ 25 ≤ (x1_a157).toNatClampNeg then none else
        f_X6_digest_L157 mo_pageLength mo_page n (f_X6_mix mo_h_a157 (((mo_page (x1_a157).toNatClampNeg)).toInt64)) (x1_a157 + (1 : Int32))
theorem f_X6_digest_L157_s (mo_pageLength : Int32) (mo_page : Nat → Int32) (n : Nat) (mo_h_a157 : Int64) (x1_a157 : Int32) : f_X6_digest_L157 mo_pageLength mo_page (n + 1) mo_h_a157 x1_a157 =
      (if mo_pageLength ≤ x1_a157 then
        some mo_h_a157
      else
        if x1_a157 < 0 ∨ 25 ≤ (x1_a157).toNatClampNeg then none else
        f_X6_digest_L157 mo_pageLength mo_page n (f_X6_mix mo_h_a157 (((mo_page (x1_a157).toNatClampNeg)).toInt64)) (x1_a157 + (1 : Int32))) := rfl
def f_X6_digest_L184 (mo_pageLength : Int32) (mo_nodes : Int32) (mo_links : Int32) (mo_width : Int32) (mo_drawn : Int32) (mo_seed : Int32) (mo_bundleOf : Nat → Int32) (mo_netsRead : Int32) (mo_sent : Int32) (mo_passagesEver : Int32) (mo_astrayEver : Int32) (mo_loopsEver : Int32) : Nat → Int64 → Int32 → Option (Int64)
  | 0, _, _ => none
  | n + 1, mo_h_a184, x1_a184 =>
      if (12 : Int32) ≤ x1_a184 then
        some mo_h_a184
      else
        Option.bind (f_X6_howMany mo_pageLength mo_nodes mo_links mo_width mo_drawn mo_seed mo_bundleOf mo_netsRead mo_sent mo_passagesEver mo_astrayEver mo_loopsEver x1_a184) fun r72 =>
        f_X6_digest_L184 mo_pageLength mo_nodes mo_links mo_width mo_drawn mo_seed mo_bundleOf mo_netsRead mo_sent mo_passagesEver mo_astrayEver mo_loopsEver n (f_X6_mix mo_h_a184 ((r72).toInt64)) (x1_a184 + (1 : Int32))
theorem f_X6_digest_L184_s (mo_pageLength : Int32) (mo_nodes : Int32) (mo_links : Int32) (mo_width : Int32) (mo_drawn : Int32) (mo_seed : Int32) (mo_bundleOf : Nat → Int32) (mo_netsRead : Int32) (mo_sent : Int32) (mo_passagesEver : Int32) (mo_astrayEver : Int32) (mo_loopsEver : Int32) (n : Nat) (mo_h_a184 : Int64) (x1_a184 : Int32) : f_X6_digest_L184 mo_pageLength mo_nodes mo_links mo_width mo_drawn mo_seed mo_bundleOf mo_netsRead mo_sent mo_passagesEver mo_astrayEver mo_loopsEver (n + 1) mo_h_a184 x1_a184 =
      (if (12 : Int32) ≤ x1_a184 then
        some mo_h_a184
      else
        Option.bind (f_X6_howMany mo_pageLength mo_nodes mo_links mo_width mo_drawn mo_seed mo_bundleOf mo_netsRead mo_sent mo_passagesEver mo_astrayEver mo_loopsEver x1_a184) fun r72 =>
        f_X6_digest_L184 mo_pageLength mo_nodes mo_links mo_width mo_drawn mo_seed mo_bundleOf mo_netsRead mo_sent mo_passagesEver mo_astrayEver mo_loopsEver n (f_X6_mix mo_h_a184 ((r72).toInt64)) (x1_a184 + (1 : Int32))) := rfl
def f_X6_digest (mo_pageLength : Int32) (mo_page : Nat → Int32) (mo_nodes : Int32) (mo_links : Int32) (mo_fromOf : Nat → Int32) (mo_toOf : Nat → Int32) (mo_width : Int32) (mo_drawn : Int32) (mo_seed : Int32) (mo_bundleOf : Nat → Int32) (mo_netsRead : Int32) (mo_sent : Int32) (mo_passagesEver : Int32) (mo_astrayEver : Int32) (mo_loopsEver : Int32) (mo_marks : Nat → Int64) (mo_leftOf : Nat → Int32) (mo_wayMany : Int32) (mo_wayAt : Nat → Int32) (mo_bitsNow : Int64) (mo_passages : Int32) (mo_astray : Int32) (mo_loops : Int32) (mo_steps : Int32) (mo_reached : Int32) (mo_others : Int32) : Option (Int64 × (Nat → Int32) × Int32 × (Nat → Int32) × Int64 × Int32 × Int32 × Int32 × Int32 × Int32 × Int32 × Int64) :=
  Option.bind (f_X6_digest_L9 mo_links mo_fromOf mo_toOf mo_bundleOf mo_marks 100 (1693 : Int64) (0 : Int32)) fun mo_h_o1 =>
  Option.bind (f_X6_digest_L77 mo_bundleOf mo_marks 100 mo_h_o1 (0 : Int32)) fun mo_h_o19 =>
  Option.bind (f_X6_digest_L136 mo_nodes mo_links mo_fromOf mo_toOf mo_width mo_drawn mo_bundleOf mo_marks 100 mo_leftOf mo_wayMany mo_wayAt mo_bitsNow mo_passages mo_astray mo_loops mo_steps mo_reached mo_others mo_h_o19 (0 : Int32)) fun (mo_leftOf_o35, mo_wayMany_o36, mo_wayAt_o37, mo_bitsNow_o38, mo_passages_o39, mo_astray_o40, mo_loops_o41, mo_steps_o42, mo_reached_o43, mo_others_o44, mo_h_o45) =>
  Option.bind (f_X6_digest_L157 mo_pageLength mo_page 100 mo_h_o45 (0 : Int32)) fun mo_h_o62 =>
  Option.bind (f_X6_digest_L184 mo_pageLength mo_nodes mo_links mo_width mo_drawn mo_seed mo_bundleOf mo_netsRead mo_sent mo_passagesEver mo_astrayEver mo_loopsEver 100 mo_h_o62 (0 : Int32)) fun mo_h_o68 =>
  some (mo_h_o68, mo_leftOf_o35, mo_wayMany_o36, mo_wayAt_o37, mo_bitsNow_o38, mo_passages_o39, mo_astray_o40, mo_loops_o41, mo_steps_o42, mo_reached_o43, mo_others_o44, mo_h_o68)
abbrev rm_X6_digest : Room := { frames := 6, cells := 0, slots := 0, locals := 149 }
set_option maxHeartbeats 4000000 in
set_option maxRecDepth 100000 in
theorem c_X6_digest (l : Launch) (D : va_G) (cI cJ : ClassId) (ad : Nat → Nat) (sz : Nat) {mo_pageLength : Int32} {mo_page : Nat → Int32} {mo_nodes mo_links : Int32} {mo_fromOf mo_toOf : Nat → Int32} {mo_width mo_drawn mo_seed : Int32} {mo_bundleOf : Nat → Int32} {mo_netsRead mo_sent mo_passagesEver mo_astrayEver mo_loopsEver mo_newNodes mo_newPairs mo_due mo_newOne : Int32} {mo_newFrom mo_newTo : Nat → Int32} {mo_marks : Nat → Int64} {mo_drawing : Int64} {mo_leftOf : Nat → Int32} {mo_wayMany : Int32} {mo_wayAt : Nat → Int32} {mo_bitsNow : Int64} {mo_passages mo_astray mo_loops mo_steps mo_reached mo_others : Int32} {mo_h : Int64}  {o_res : Int64} {o_mo_leftOf : Nat → Int32} {o_mo_wayMany : Int32} {o_mo_wayAt : Nat → Int32} {o_mo_bitsNow : Int64} {o_mo_passages : Int32} {o_mo_astray : Int32} {o_mo_loops : Int32} {o_mo_steps : Int32} {o_mo_reached : Int32} {o_mo_others : Int32} {o_mo_h : Int64} (hf : f_X6_digest mo_pageLength mo_page mo_nodes mo_links mo_fromOf mo_toOf mo_width mo_drawn mo_seed mo_bundleOf mo_netsRead mo_sent mo_passagesEver mo_astrayEver mo_loopsEver mo_marks mo_leftOf mo_wayMany mo_wayAt mo_bitsNow mo_passages mo_astray mo_loops mo_steps mo_reached mo_others = some (o_res, o_mo_leftOf, o_mo_wayMany, o_mo_wayAt, o_mo_bitsNow, o_mo_passages, o_mo_astray, o_mo_loops, o_mo_steps, o_mo_reached, o_mo_others, o_mo_h)) : CtL l yX6_digest wsX6_digest rm_X6_digest D cI cJ [.ref (ad 15)] (wdM cI cJ ad mo_pageLength mo_page mo_nodes mo_links mo_fromOf mo_toOf mo_width mo_drawn mo_seed mo_bundleOf mo_netsRead mo_sent mo_passagesEver mo_astrayEver mo_loopsEver mo_newNodes mo_newPairs mo_due mo_newOne mo_newFrom mo_newTo mo_marks mo_drawing mo_leftOf mo_wayMany mo_wayAt mo_bitsNow mo_passages mo_astray mo_loops mo_steps mo_reached mo_others mo_h) sz o_res (wdM cI cJ ad mo_pageLength mo_page mo_nodes mo_links mo_fromOf mo_toOf mo_width mo_drawn mo_seed mo_bundleOf mo_netsRead mo_sent mo_passagesEver mo_astrayEver mo_loopsEver mo_newNodes mo_newPairs mo_due mo_newOne mo_newFrom mo_newTo mo_marks mo_drawing o_mo_leftOf o_mo_wayMany o_mo_wayAt o_mo_bitsNow o_mo_passages o_mo_astray o_mo_loops o_mo_steps o_mo_reached o_mo_others o_mo_h) := by
  refine ctL_of (cc := cX6_digest) (maxL := 3) (by decide) rfl (Nat.le_of_ble_eq_true rfl) ?_
  intro p e s m below meth c Q A hx hb hml hown hts hK hN hA hret ls hl hP hD hS
  obtain ⟨args, hargs⟩ : ∃ a : Array Value, a = [.ref (ad 15)].toArray := ⟨_, rfl⟩
  rw [← hargs] at hts hret ⊢
  have hown : s.vm.findClass RX6 = some m.cls := hown
  have hl : lv_has ls 3 [(0, .ref (ad 15))] := hl
  have hin_X6 : ∀ w ∈ wsX60, w ∈ wsX6_digest := fun _ h => List.mem_cons_of_mem _ (List.mem_append_right _ h)
  have fl_7 : (Cond.fieldLink RX6 7 "FoldedWaysModel" "page" "[I").before args s = true := hat hts 8 rfl
  have fl_29 : (Cond.fieldLink RX6 29 "FoldedWaysModel" "bundleOf" "[I").before args s = true := hat hts 5 rfl
  have fl_38 : (Cond.fieldLink RX6 38 "FoldedWaysModel" "marks" "[J").before args s = true := hat hts 4 rfl
  have fl_52 : (Cond.fieldLink RX6 52 "FoldedWaysModel" "pageLength" "I").before args s = true := hat hts 7 rfl
  have fl_82 : (Cond.fieldLink RX6 82 "FoldedWaysModel" "nodes" "I").before args s = true := hat hts 6 rfl
  have fl_85 : (Cond.fieldLink RX6 85 "FoldedWaysModel" "links" "I").before args s = true := hat hts 3 rfl
  have fl_238 : (Cond.fieldLink RX6 238 "FoldedWaysModel" "h" "J").before args s = true := hat hts 2 rfl
  unfold f_X6_digest at hf
  refine lv_aload_n hx hb dX6_digest_0 rfl (lv_at hl 0 rfl) ?_
  refine lv_ldc2 (v := (1693 : Int64)) hx hb hown (hat hts 1 rfl) dX6_digest_1 ?_
  refine va_put (ci := 6) (v := .long (1693 : Int64)) (ty := .long) (C := RX6) (T := TX6) (N := 34) hx hb hts hin_X6 tyX6 tyX6_ok nmX6 hown hK hP hD hS 0 rfl rfl 33 (by decide) fl_238 (fun _ h9 => h9) rfl (by decide +kernel) rfl rfl (Nat.le_of_ble_eq_true rfl) dX6_digest_4 (fun H locs hP hD hS => ?_)
  have hP : va_P D vwCl (wdM cI cJ ad mo_pageLength mo_page mo_nodes mo_links mo_fromOf mo_toOf mo_width mo_drawn mo_seed mo_bundleOf mo_netsRead mo_sent mo_passagesEver mo_astrayEver mo_loopsEver mo_newNodes mo_newPairs mo_due mo_newOne mo_newFrom mo_newTo mo_marks mo_drawing mo_leftOf mo_wayMany mo_wayAt mo_bitsNow mo_passages mo_astray mo_loops mo_steps mo_reached mo_others (1693 : Int64)) H := hP
  have hD : va_D A (wdM cI cJ ad mo_pageLength mo_page mo_nodes mo_links mo_fromOf mo_toOf mo_width mo_drawn mo_seed mo_bundleOf mo_netsRead mo_sent mo_passagesEver mo_astrayEver mo_loopsEver mo_newNodes mo_newPairs mo_due mo_newOne mo_newFrom mo_newTo mo_marks mo_drawing mo_leftOf mo_wayMany mo_wayAt mo_bitsNow mo_passages mo_astray mo_loops mo_steps mo_reached mo_others (1693 : Int64)) := hD
  refine lv_iconst (v := (0 : Int32)) hx hb dX6_digest_7 (by decide) ?_
  refine lv_istore_n (lv' := [(1, .int (0 : Int32)), (0, .ref (ad 15))]) hx hb dX6_digest_8 rfl hl (by decide) rfl (fun ls hl => ?_)
  have lp2 : ∀ (n : Nat) (mo_h_a9 : Int64) (x1_a9 : Int32) (mo_h_o1 : Int64), f_X6_digest_L9 mo_links mo_fromOf mo_toOf mo_bundleOf mo_marks n mo_h_a9 x1_a9 = some mo_h_o1 → (∀ (H : Heap) (locs : List Loc) (ls : Array Slot), va_P D vwCl (wdM cI cJ ad mo_pageLength mo_page mo_nodes mo_links mo_fromOf mo_toOf mo_width mo_drawn mo_seed mo_bundleOf mo_netsRead mo_sent mo_passagesEver mo_astrayEver mo_loopsEver mo_newNodes mo_newPairs mo_due mo_newOne mo_newFrom mo_newTo mo_marks mo_drawing mo_leftOf mo_wayMany mo_wayAt mo_bitsNow mo_passages mo_astray mo_loops mo_steps mo_reached mo_others mo_h_o1) H → va_D A (wdM cI cJ ad mo_pageLength mo_page mo_nodes mo_links mo_fromOf mo_toOf mo_width mo_drawn mo_seed mo_bundleOf mo_netsRead mo_sent mo_passagesEver mo_astrayEver mo_loopsEver mo_newNodes mo_newPairs mo_due mo_newOne mo_newFrom mo_newTo mo_marks mo_drawing mo_leftOf mo_wayMany mo_wayAt mo_bitsNow mo_passages mo_astray mo_loops mo_steps mo_reached mo_others mo_h_o1) → va_S A s.heap H locs → lv_has ls 3 [(0, .ref (ad 15))] → W p l e rm_X6_digest s m args below meth c H locs 0 0 Q (F0 m 75 ls [])) → ∀ (H : Heap) (locs : List Loc) (ls : Array Slot), va_P D vwCl (wdM cI cJ ad mo_pageLength mo_page mo_nodes mo_links mo_fromOf mo_toOf mo_width mo_drawn mo_seed mo_bundleOf mo_netsRead mo_sent mo_passagesEver mo_astrayEver mo_loopsEver mo_newNodes mo_newPairs mo_due mo_newOne mo_newFrom mo_newTo mo_marks mo_drawing mo_leftOf mo_wayMany mo_wayAt mo_bitsNow mo_passages mo_astray mo_loops mo_steps mo_reached mo_others mo_h_a9) H → va_D A (wdM cI cJ ad mo_pageLength mo_page mo_nodes mo_links mo_fromOf mo_toOf mo_width mo_drawn mo_seed mo_bundleOf mo_netsRead mo_sent mo_passagesEver mo_astrayEver mo_loopsEver mo_newNodes mo_newPairs mo_due mo_newOne mo_newFrom mo_newTo mo_marks mo_drawing mo_leftOf mo_wayMany mo_wayAt mo_bitsNow mo_passages mo_astray mo_loops mo_steps mo_reached mo_others mo_h_a9) → va_S A s.heap H locs → lv_has ls 3 [(0, .ref (ad 15)), (1, .int x1_a9)] → W p l e rm_X6_digest s m args below meth c H locs 0 0 Q (F0 m 9 ls []) := by
    intro n
    induction n with
    | zero =>
      intro mo_h_a9 x1_a9 mo_h_o1 h0
      exact oo_n h0
    | succ n ih =>
      intro mo_h_a9 x1_a9 mo_h_o1 hf kk H locs ls hP hD hS hl
      rw [f_X6_digest_L9_s] at hf
      refine lv_iload_n hx hb dX6_digest_9 rfl (lv_at hl 1 rfl) ?_
      refine lv_aload_n hx hb dX6_digest_10 rfl (lv_at hl 0 rfl) ?_
      refine va_get (ci := 6) (v := .int mo_links) (C := RX6) (T := TX6) (N := 34) hx hb hts hin_X6 hown hK hP 0 rfl rfl 3 (by decide) fl_85 (fun _ h9 => h9) rfl dX6_digest_11 ?_
      refine lv_icmp_ge (tgt := 75) hx hb dX6_digest_14 (by decide) (fun c3 => ?_) (fun c3 => ?_)
      · have hf := oo_t hf c3
        cases hf
        exact kk _ _ _ hP hD hS (lv_sub hl [0] rfl)
      · have hf := oo_f hf c3
        refine lv_iconst (v := (0 : Int32)) hx hb dX6_digest_17 (by decide) ?_
        refine lv_istore_n (lv' := [(2, .int (0 : Int32)), (0, .ref (ad 15)), (1, .int x1_a9)]) hx hb dX6_digest_18 rfl hl (by decide) rfl (fun ls hl => ?_)
        have lp5 : ∀ (n : Nat) (mo_h_a19 : Int64) (x2_a19 : Int32) (mo_h_o4 : Int64), f_X6_digest_L19 mo_fromOf mo_toOf mo_bundleOf x1_a9 n mo_h_a19 x2_a19 = some mo_h_o4 → (∀ (H : Heap) (locs : List Loc) (ls : Array Slot), va_P D vwCl (wdM cI cJ ad mo_pageLength mo_page mo_nodes mo_links mo_fromOf mo_toOf mo_width mo_drawn mo_seed mo_bundleOf mo_netsRead mo_sent mo_passagesEver mo_astrayEver mo_loopsEver mo_newNodes mo_newPairs mo_due mo_newOne mo_newFrom mo_newTo mo_marks mo_drawing mo_leftOf mo_wayMany mo_wayAt mo_bitsNow mo_passages mo_astray mo_loops mo_steps mo_reached mo_others mo_h_o4) H → va_D A (wdM cI cJ ad mo_pageLength mo_page mo_nodes mo_links mo_fromOf mo_toOf mo_width mo_drawn mo_seed mo_bundleOf mo_netsRead mo_sent mo_passagesEver mo_astrayEver mo_loopsEver mo_newNodes mo_newPairs mo_due mo_newOne mo_newFrom mo_newTo mo_marks mo_drawing mo_leftOf mo_wayMany mo_wayAt mo_bitsNow mo_passages mo_astray mo_loops mo_steps mo_reached mo_others mo_h_o4) → va_S A s.heap H locs → lv_has ls 3 [(0, .ref (ad 15)), (1, .int x1_a9)] → W p l e rm_X6_digest s m args below meth c H locs 0 0 Q (F0 m 41 ls [])) → ∀ (H : Heap) (locs : List Loc) (ls : Array Slot), va_P D vwCl (wdM cI cJ ad mo_pageLength mo_page mo_nodes mo_links mo_fromOf mo_toOf mo_width mo_drawn mo_seed mo_bundleOf mo_netsRead mo_sent mo_passagesEver mo_astrayEver mo_loopsEver mo_newNodes mo_newPairs mo_due mo_newOne mo_newFrom mo_newTo mo_marks mo_drawing mo_leftOf mo_wayMany mo_wayAt mo_bitsNow mo_passages mo_astray mo_loops mo_steps mo_reached mo_others mo_h_a19) H → va_D A (wdM cI cJ ad mo_pageLength mo_page mo_nodes mo_links mo_fromOf mo_toOf mo_width mo_drawn mo_seed mo_bundleOf mo_netsRead mo_sent mo_passagesEver mo_astrayEver mo_loopsEver mo_newNodes mo_newPairs mo_due mo_newOne mo_newFrom mo_newTo mo_marks mo_drawing mo_leftOf mo_wayMany mo_wayAt mo_bitsNow mo_passages mo_astray mo_loops mo_steps mo_reached mo_others mo_h_a19) → va_S A s.heap H locs → lv_has ls 3 [(0, .ref (ad 15)), (1, .int x1_a9), (2, .int x2_a19)] → W p l e rm_X6_digest s m args below meth c H locs 0 0 Q (F0 m 19 ls []) := by
          intro n
          induction n with
          | zero =>
            intro mo_h_a19 x2_a19 mo_h_o4 h0
            exact oo_n h0
          | succ n ih =>
            intro mo_h_a19 x2_a19 mo_h_o4 hf kk H locs ls hP hD hS hl
            rw [f_X6_digest_L19_s] at hf
            refine lv_iload_n hx hb dX6_digest_19 rfl (lv_at hl 2 rfl) ?_
            refine lv_iconst (v := (3 : Int32)) hx hb dX6_digest_20 (by decide) ?_
            refine lv_icmp_ge (tgt := 41) hx hb dX6_digest_21 (by decide) (fun c6 => ?_) (fun c6 => ?_)
            · have hf := oo_t hf c6
              cases hf
              exact kk _ _ _ hP hD hS (lv_sub hl [0, 1] rfl)
            · have hf := oo_f hf c6
              refine lv_aload_n hx hb dX6_digest_24 rfl (lv_at hl 0 rfl) ?_
              refine lv_aload_n hx hb dX6_digest_25 rfl (lv_at hl 0 rfl) ?_
              refine lv_iload_n hx hb dX6_digest_26 rfl (lv_at hl 1 rfl) ?_
              refine lv_iload_n hx hb dX6_digest_27 rfl (lv_at hl 2 rfl) ?_
              obtain ⟨r8, h7, hf⟩ := oo_b hf
              try dsimp only at hf
              have F : Fr D A _ (wdM cI cJ ad mo_pageLength mo_page mo_nodes mo_links mo_fromOf mo_toOf mo_width mo_drawn mo_seed mo_bundleOf mo_netsRead mo_sent mo_passagesEver mo_astrayEver mo_loopsEver mo_newNodes mo_newPairs mo_due mo_newOne mo_newFrom mo_newTo mo_marks mo_drawing mo_leftOf mo_wayMany mo_wayAt mo_bitsNow mo_passages mo_astray mo_loops mo_steps mo_reached mo_others mo_h_a19) (wdM cI cJ ad mo_pageLength mo_page mo_nodes mo_links mo_fromOf mo_toOf mo_width mo_drawn mo_seed mo_bundleOf mo_netsRead mo_sent mo_passagesEver mo_astrayEver mo_loopsEver mo_newNodes mo_newPairs mo_due mo_newOne mo_newFrom mo_newTo mo_marks mo_drawing mo_leftOf mo_wayMany mo_wayAt mo_bitsNow mo_passages mo_astray mo_loops mo_steps mo_reached mo_others mo_h_a19) (wdM cI cJ ad mo_pageLength mo_page mo_nodes mo_links mo_fromOf mo_toOf mo_width mo_drawn mo_seed mo_bundleOf mo_netsRead mo_sent mo_passagesEver mo_astrayEver mo_loopsEver mo_newNodes mo_newPairs mo_due mo_newOne mo_newFrom mo_newTo mo_marks mo_drawing mo_leftOf mo_wayMany mo_wayAt mo_bitsNow mo_passages mo_astray mo_loops mo_steps mo_reached mo_others mo_h_a19) := fr_self hP hD hS hA
              refine kI F hS (rV (q := (RX6, TX6, 34)) (As := [.int x1_a9, .int x2_a19]) (rest := [.ref (ad 15)]) ⟨hx, hb, hml, hown, hts⟩ hK hN F (c_X6_linkNow l D cI cJ ad _ (mo_pageLength := mo_pageLength) (mo_page := mo_page) (mo_nodes := mo_nodes) (mo_links := mo_links) (mo_fromOf := mo_fromOf) (mo_toOf := mo_toOf) (mo_width := mo_width) (mo_drawn := mo_drawn) (mo_seed := mo_seed) (mo_bundleOf := mo_bundleOf) (mo_netsRead := mo_netsRead) (mo_sent := mo_sent) (mo_passagesEver := mo_passagesEver) (mo_astrayEver := mo_astrayEver) (mo_loopsEver := mo_loopsEver) (mo_newNodes := mo_newNodes) (mo_newPairs := mo_newPairs) (mo_due := mo_due) (mo_newOne := mo_newOne) (mo_newFrom := mo_newFrom) (mo_newTo := mo_newTo) (mo_marks := mo_marks) (mo_drawing := mo_drawing) (mo_leftOf := mo_leftOf) (mo_wayMany := mo_wayMany) (mo_wayAt := mo_wayAt) (mo_bitsNow := mo_bitsNow) (mo_passages := mo_passages) (mo_astray := mo_astray) (mo_loops := mo_loops) (mo_steps := mo_steps) (mo_reached := mo_reached) (mo_others := mo_others) (mo_h := mo_h_a19) x1_a9 x2_a19 (o_res := r8) h7) (cwV 2 hts gX6_digest_X6_linkNow rfl rfl rfl (by decide +kernel) ⟨Nat.le_of_ble_eq_true rfl, Nat.le_of_ble_eq_true rfl⟩) (ci := 6) rfl rfl rfl hl.1 rfl (Nat.le_of_ble_eq_true rfl) dX6_digest_28 ⟨Nat.zero_le _, Nat.zero_le _⟩) (fun H locs hP hD hS => ?_)
              refine lv_i2l (v := (r8).toInt64) hx hb dX6_digest_31 rfl ?_
              have F : Fr D A _ (wdM cI cJ ad mo_pageLength mo_page mo_nodes mo_links mo_fromOf mo_toOf mo_width mo_drawn mo_seed mo_bundleOf mo_netsRead mo_sent mo_passagesEver mo_astrayEver mo_loopsEver mo_newNodes mo_newPairs mo_due mo_newOne mo_newFrom mo_newTo mo_marks mo_drawing mo_leftOf mo_wayMany mo_wayAt mo_bitsNow mo_passages mo_astray mo_loops mo_steps mo_reached mo_others mo_h_a19) (wdM cI cJ ad mo_pageLength mo_page mo_nodes mo_links mo_fromOf mo_toOf mo_width mo_drawn mo_seed mo_bundleOf mo_netsRead mo_sent mo_passagesEver mo_astrayEver mo_loopsEver mo_newNodes mo_newPairs mo_due mo_newOne mo_newFrom mo_newTo mo_marks mo_drawing mo_leftOf mo_wayMany mo_wayAt mo_bitsNow mo_passages mo_astray mo_loops mo_steps mo_reached mo_others (f_X6_mix mo_h_a19 ((r8).toInt64))) (wdM cI cJ ad mo_pageLength mo_page mo_nodes mo_links mo_fromOf mo_toOf mo_width mo_drawn mo_seed mo_bundleOf mo_netsRead mo_sent mo_passagesEver mo_astrayEver mo_loopsEver mo_newNodes mo_newPairs mo_due mo_newOne mo_newFrom mo_newTo mo_marks mo_drawing mo_leftOf mo_wayMany mo_wayAt mo_bitsNow mo_passages mo_astray mo_loops mo_steps mo_reached mo_others (f_X6_mix mo_h_a19 ((r8).toInt64))) := fr_self hP hD hS hA
              refine kV F hS (rV (q := (RX6, TX6, 34)) (As := [.long ((r8).toInt64)]) (rest := []) ⟨hx, hb, hml, hown, hts⟩ hK hN F (c_X6_mix l D cI cJ ad _ (mo_pageLength := mo_pageLength) (mo_page := mo_page) (mo_nodes := mo_nodes) (mo_links := mo_links) (mo_fromOf := mo_fromOf) (mo_toOf := mo_toOf) (mo_width := mo_width) (mo_drawn := mo_drawn) (mo_seed := mo_seed) (mo_bundleOf := mo_bundleOf) (mo_netsRead := mo_netsRead) (mo_sent := mo_sent) (mo_passagesEver := mo_passagesEver) (mo_astrayEver := mo_astrayEver) (mo_loopsEver := mo_loopsEver) (mo_newNodes := mo_newNodes) (mo_newPairs := mo_newPairs) (mo_due := mo_due) (mo_newOne := mo_newOne) (mo_newFrom := mo_newFrom) (mo_newTo := mo_newTo) (mo_marks := mo_marks) (mo_drawing := mo_drawing) (mo_leftOf := mo_leftOf) (mo_wayMany := mo_wayMany) (mo_wayAt := mo_wayAt) (mo_bitsNow := mo_bitsNow) (mo_passages := mo_passages) (mo_astray := mo_astray) (mo_loops := mo_loops) (mo_steps := mo_steps) (mo_reached := mo_reached) (mo_others := mo_others) (mo_h := mo_h_a19) ((r8).toInt64) (o_mo_h := (f_X6_mix mo_h_a19 ((r8).toInt64))) rfl) (cwV 1 hts gX6_digest_X6_mix rfl rfl rfl (by decide +kernel) ⟨Nat.le_of_ble_eq_true rfl, Nat.le_of_ble_eq_true rfl⟩) (ci := 6) rfl rfl rfl hl.1 rfl (Nat.le_of_ble_eq_true rfl) dX6_digest_32 ⟨Nat.zero_le _, Nat.zero_le _⟩) (fun H locs hP hD hS => ?_)
              refine lv_iinc (v := (x2_a19 + (1 : Int32))) (lv' := [(2, .int (x2_a19 + (1 : Int32))), (0, .ref (ad 15)), (1, .int x1_a9)]) hx hb dX6_digest_35 hl (k := 2) rfl rfl (by decide) rfl (fun ls hl => ?_)
              refine lv_goto (tgt := 19) hx hb dX6_digest_38 (by decide) ?_
              exact ih (f_X6_mix mo_h_a19 ((r8).toInt64)) (x2_a19 + (1 : Int32)) _ hf kk _ _ _ hP hD hS (lv_sub hl [1, 2, 0] rfl)
        obtain ⟨mo_h_o4, h11, hf⟩ := oo_b hf
        try dsimp only at hf
        refine lp5  100 mo_h_a9 (0 : Int32) mo_h_o4 h11 (fun H locs ls hP hD hS hl => ?_) _ _ _ hP hD hS (lv_sub hl [1, 2, 0] rfl)
        refine lv_iconst (v := (0 : Int32)) hx hb dX6_digest_41 (by decide) ?_
        refine lv_istore_n (lv' := [(2, .int (0 : Int32)), (0, .ref (ad 15)), (1, .int x1_a9)]) hx hb dX6_digest_42 rfl hl (by decide) rfl (fun ls hl => ?_)
        have lp13 : ∀ (n : Nat) (mo_h_a43 : Int64) (x2_a43 : Int32) (mo_h_o12 : Int64), f_X6_digest_L43 mo_marks x1_a9 n mo_h_a43 x2_a43 = some mo_h_o12 → (∀ (H : Heap) (locs : List Loc) (ls : Array Slot), va_P D vwCl (wdM cI cJ ad mo_pageLength mo_page mo_nodes mo_links mo_fromOf mo_toOf mo_width mo_drawn mo_seed mo_bundleOf mo_netsRead mo_sent mo_passagesEver mo_astrayEver mo_loopsEver mo_newNodes mo_newPairs mo_due mo_newOne mo_newFrom mo_newTo mo_marks mo_drawing mo_leftOf mo_wayMany mo_wayAt mo_bitsNow mo_passages mo_astray mo_loops mo_steps mo_reached mo_others mo_h_o12) H → va_D A (wdM cI cJ ad mo_pageLength mo_page mo_nodes mo_links mo_fromOf mo_toOf mo_width mo_drawn mo_seed mo_bundleOf mo_netsRead mo_sent mo_passagesEver mo_astrayEver mo_loopsEver mo_newNodes mo_newPairs mo_due mo_newOne mo_newFrom mo_newTo mo_marks mo_drawing mo_leftOf mo_wayMany mo_wayAt mo_bitsNow mo_passages mo_astray mo_loops mo_steps mo_reached mo_others mo_h_o12) → va_S A s.heap H locs → lv_has ls 3 [(0, .ref (ad 15)), (1, .int x1_a9)] → W p l e rm_X6_digest s m args below meth c H locs 0 0 Q (F0 m 69 ls [])) → ∀ (H : Heap) (locs : List Loc) (ls : Array Slot), va_P D vwCl (wdM cI cJ ad mo_pageLength mo_page mo_nodes mo_links mo_fromOf mo_toOf mo_width mo_drawn mo_seed mo_bundleOf mo_netsRead mo_sent mo_passagesEver mo_astrayEver mo_loopsEver mo_newNodes mo_newPairs mo_due mo_newOne mo_newFrom mo_newTo mo_marks mo_drawing mo_leftOf mo_wayMany mo_wayAt mo_bitsNow mo_passages mo_astray mo_loops mo_steps mo_reached mo_others mo_h_a43) H → va_D A (wdM cI cJ ad mo_pageLength mo_page mo_nodes mo_links mo_fromOf mo_toOf mo_width mo_drawn mo_seed mo_bundleOf mo_netsRead mo_sent mo_passagesEver mo_astrayEver mo_loopsEver mo_newNodes mo_newPairs mo_due mo_newOne mo_newFrom mo_newTo mo_marks mo_drawing mo_leftOf mo_wayMany mo_wayAt mo_bitsNow mo_passages mo_astray mo_loops mo_steps mo_reached mo_others mo_h_a43) → va_S A s.heap H locs → lv_has ls 3 [(0, .ref (ad 15)), (1, .int x1_a9), (2, .int x2_a43)] → W p l e rm_X6_digest s m args below meth c H locs 0 0 Q (F0 m 43 ls []) := by
          intro n
          induction n with
          | zero =>
            intro mo_h_a43 x2_a43 mo_h_o12 h0
            exact oo_n h0
          | succ n ih =>
            intro mo_h_a43 x2_a43 mo_h_o12 hf kk H locs ls hP hD hS hl
            rw [f_X6_digest_L43_s] at hf
            refine lv_iload_n hx hb dX6_digest_43 rfl (lv_at hl 2 rfl) ?_
            refine lv_iconst (v := (3 : Int32)) hx hb dX6_digest_44 (by decide) ?_
            refine lv_icmp_ge (tgt := 69) hx hb dX6_digest_45 (by decide) (fun c14 => ?_) (fun c14 => ?_)
            · have hf := oo_t hf c14
              cases hf
              exact kk _ _ _ hP hD hS (lv_sub hl [0, 1] rfl)
            · have hf := oo_f hf c14
              refine lv_aload_n hx hb dX6_digest_48 rfl (lv_at hl 0 rfl) ?_
              refine lv_aload_n hx hb dX6_digest_49 rfl (lv_at hl 0 rfl) ?_
              refine va_get (ci := 6) (v := .ref (ad 22)) (C := RX6) (T := TX6) (N := 34) hx hb hts hin_X6 hown hK hP 0 rfl rfl 21 (by decide) fl_38 (fun _ h9 => h9) rfl dX6_digest_50 ?_
              refine lv_bipush (v := (20 : Int32)) hx hb dX6_digest_53 (by decide) ?_
              refine lv_iload_n hx hb dX6_digest_55 rfl (lv_at hl 2 rfl) ?_
              refine lv_imul hx hb dX6_digest_56 ?_
              refine lv_iload_n hx hb dX6_digest_57 rfl (lv_at hl 1 rfl) ?_
              refine lv_iadd hx hb dX6_digest_58 ?_
              obtain ⟨g15, hf⟩ := oo_g hf
              refine va_lald hx hb hK hP 7 1 rfl rfl g15 dX6_digest_59 ?_
              have F : Fr D A _ (wdM cI cJ ad mo_pageLength mo_page mo_nodes mo_links mo_fromOf mo_toOf mo_width mo_drawn mo_seed mo_bundleOf mo_netsRead mo_sent mo_passagesEver mo_astrayEver mo_loopsEver mo_newNodes mo_newPairs mo_due mo_newOne mo_newFrom mo_newTo mo_marks mo_drawing mo_leftOf mo_wayMany mo_wayAt mo_bitsNow mo_passages mo_astray mo_loops mo_steps mo_reached mo_others mo_h_a43) (wdM cI cJ ad mo_pageLength mo_page mo_nodes mo_links mo_fromOf mo_toOf mo_width mo_drawn mo_seed mo_bundleOf mo_netsRead mo_sent mo_passagesEver mo_astrayEver mo_loopsEver mo_newNodes mo_newPairs mo_due mo_newOne mo_newFrom mo_newTo mo_marks mo_drawing mo_leftOf mo_wayMany mo_wayAt mo_bitsNow mo_passages mo_astray mo_loops mo_steps mo_reached mo_others (f_X6_mix mo_h_a43 (mo_marks ((((20 : Int32) * x2_a43) + x1_a9)).toNatClampNeg))) (wdM cI cJ ad mo_pageLength mo_page mo_nodes mo_links mo_fromOf mo_toOf mo_width mo_drawn mo_seed mo_bundleOf mo_netsRead mo_sent mo_passagesEver mo_astrayEver mo_loopsEver mo_newNodes mo_newPairs mo_due mo_newOne mo_newFrom mo_newTo mo_marks mo_drawing mo_leftOf mo_wayMany mo_wayAt mo_bitsNow mo_passages mo_astray mo_loops mo_steps mo_reached mo_others (f_X6_mix mo_h_a43 (mo_marks ((((20 : Int32) * x2_a43) + x1_a9)).toNatClampNeg))) := fr_self hP hD hS hA
              refine kV F hS (rV (q := (RX6, TX6, 34)) (As := [.long (mo_marks ((((20 : Int32) * x2_a43) + x1_a9)).toNatClampNeg)]) (rest := []) ⟨hx, hb, hml, hown, hts⟩ hK hN F (c_X6_mix l D cI cJ ad _ (mo_pageLength := mo_pageLength) (mo_page := mo_page) (mo_nodes := mo_nodes) (mo_links := mo_links) (mo_fromOf := mo_fromOf) (mo_toOf := mo_toOf) (mo_width := mo_width) (mo_drawn := mo_drawn) (mo_seed := mo_seed) (mo_bundleOf := mo_bundleOf) (mo_netsRead := mo_netsRead) (mo_sent := mo_sent) (mo_passagesEver := mo_passagesEver) (mo_astrayEver := mo_astrayEver) (mo_loopsEver := mo_loopsEver) (mo_newNodes := mo_newNodes) (mo_newPairs := mo_newPairs) (mo_due := mo_due) (mo_newOne := mo_newOne) (mo_newFrom := mo_newFrom) (mo_newTo := mo_newTo) (mo_marks := mo_marks) (mo_drawing := mo_drawing) (mo_leftOf := mo_leftOf) (mo_wayMany := mo_wayMany) (mo_wayAt := mo_wayAt) (mo_bitsNow := mo_bitsNow) (mo_passages := mo_passages) (mo_astray := mo_astray) (mo_loops := mo_loops) (mo_steps := mo_steps) (mo_reached := mo_reached) (mo_others := mo_others) (mo_h := mo_h_a43) (mo_marks ((((20 : Int32) * x2_a43) + x1_a9)).toNatClampNeg) (o_mo_h := (f_X6_mix mo_h_a43 (mo_marks ((((20 : Int32) * x2_a43) + x1_a9)).toNatClampNeg))) rfl) (cwV 1 hts gX6_digest_X6_mix rfl rfl rfl (by decide +kernel) ⟨Nat.le_of_ble_eq_true rfl, Nat.le_of_ble_eq_true rfl⟩) (ci := 6) rfl rfl rfl hl.1 rfl (Nat.le_of_ble_eq_true rfl) dX6_digest_60 ⟨Nat.zero_le _, Nat.zero_le _⟩) (fun H locs hP hD hS => ?_)
              refine lv_iinc (v := (x2_a43 + (1 : Int32))) (lv' := [(2, .int (x2_a43 + (1 : Int32))), (0, .ref (ad 15)), (1, .int x1_a9)]) hx hb dX6_digest_63 hl (k := 2) rfl rfl (by decide) rfl (fun ls hl => ?_)
              refine lv_goto (tgt := 43) hx hb dX6_digest_66 (by decide) ?_
              exact ih (f_X6_mix mo_h_a43 (mo_marks ((((20 : Int32) * x2_a43) + x1_a9)).toNatClampNeg)) (x2_a43 + (1 : Int32)) _ hf kk _ _ _ hP hD hS (lv_sub hl [1, 2, 0] rfl)
        obtain ⟨mo_h_o12, h17, hf⟩ := oo_b hf
        try dsimp only at hf
        refine lp13  100 mo_h_o4 (0 : Int32) mo_h_o12 h17 (fun H locs ls hP hD hS hl => ?_) _ _ _ hP hD hS (lv_sub hl [1, 2, 0] rfl)
        refine lv_iinc (v := (x1_a9 + (1 : Int32))) (lv' := [(1, .int (x1_a9 + (1 : Int32))), (0, .ref (ad 15))]) hx hb dX6_digest_69 hl (k := 1) rfl rfl (by decide) rfl (fun ls hl => ?_)
        refine lv_goto (tgt := 9) hx hb dX6_digest_72 (by decide) ?_
        exact ih mo_h_o12 (x1_a9 + (1 : Int32)) _ hf kk _ _ _ hP hD hS (lv_sub hl [1, 0] rfl)
  obtain ⟨mo_h_o1, h18, hf⟩ := oo_b hf
  try dsimp only at hf
  refine lp2  100 (1693 : Int64) (0 : Int32) mo_h_o1 h18 (fun H locs ls hP hD hS hl => ?_) _ _ _ hP hD hS (lv_sub hl [1, 0] rfl)
  refine lv_iconst (v := (0 : Int32)) hx hb dX6_digest_75 (by decide) ?_
  refine lv_istore_n (lv' := [(1, .int (0 : Int32)), (0, .ref (ad 15))]) hx hb dX6_digest_76 rfl hl (by decide) rfl (fun ls hl => ?_)
  have lp20 : ∀ (n : Nat) (mo_h_a77 : Int64) (x1_a77 : Int32) (mo_h_o19 : Int64), f_X6_digest_L77 mo_bundleOf mo_marks n mo_h_a77 x1_a77 = some mo_h_o19 → (∀ (H : Heap) (locs : List Loc) (ls : Array Slot), va_P D vwCl (wdM cI cJ ad mo_pageLength mo_page mo_nodes mo_links mo_fromOf mo_toOf mo_width mo_drawn mo_seed mo_bundleOf mo_netsRead mo_sent mo_passagesEver mo_astrayEver mo_loopsEver mo_newNodes mo_newPairs mo_due mo_newOne mo_newFrom mo_newTo mo_marks mo_drawing mo_leftOf mo_wayMany mo_wayAt mo_bitsNow mo_passages mo_astray mo_loops mo_steps mo_reached mo_others mo_h_o19) H → va_D A (wdM cI cJ ad mo_pageLength mo_page mo_nodes mo_links mo_fromOf mo_toOf mo_width mo_drawn mo_seed mo_bundleOf mo_netsRead mo_sent mo_passagesEver mo_astrayEver mo_loopsEver mo_newNodes mo_newPairs mo_due mo_newOne mo_newFrom mo_newTo mo_marks mo_drawing mo_leftOf mo_wayMany mo_wayAt mo_bitsNow mo_passages mo_astray mo_loops mo_steps mo_reached mo_others mo_h_o19) → va_S A s.heap H locs → lv_has ls 3 [(0, .ref (ad 15))] → W p l e rm_X6_digest s m args below meth c H locs 0 0 Q (F0 m 134 ls [])) → ∀ (H : Heap) (locs : List Loc) (ls : Array Slot), va_P D vwCl (wdM cI cJ ad mo_pageLength mo_page mo_nodes mo_links mo_fromOf mo_toOf mo_width mo_drawn mo_seed mo_bundleOf mo_netsRead mo_sent mo_passagesEver mo_astrayEver mo_loopsEver mo_newNodes mo_newPairs mo_due mo_newOne mo_newFrom mo_newTo mo_marks mo_drawing mo_leftOf mo_wayMany mo_wayAt mo_bitsNow mo_passages mo_astray mo_loops mo_steps mo_reached mo_others mo_h_a77) H → va_D A (wdM cI cJ ad mo_pageLength mo_page mo_nodes mo_links mo_fromOf mo_toOf mo_width mo_drawn mo_seed mo_bundleOf mo_netsRead mo_sent mo_passagesEver mo_astrayEver mo_loopsEver mo_newNodes mo_newPairs mo_due mo_newOne mo_newFrom mo_newTo mo_marks mo_drawing mo_leftOf mo_wayMany mo_wayAt mo_bitsNow mo_passages mo_astray mo_loops mo_steps mo_reached mo_others mo_h_a77) → va_S A s.heap H locs → lv_has ls 3 [(0, .ref (ad 15)), (1, .int x1_a77)] → W p l e rm_X6_digest s m args below meth c H locs 0 0 Q (F0 m 77 ls []) := by
    intro n
    induction n with
    | zero =>
      intro mo_h_a77 x1_a77 mo_h_o19 h0
      exact oo_n h0
    | succ n ih =>
      intro mo_h_a77 x1_a77 mo_h_o19 hf kk H locs ls hP hD hS hl
      rw [f_X6_digest_L77_s] at hf
      refine lv_iload_n hx hb dX6_digest_77 rfl (lv_at hl 1 rfl) ?_
      refine lv_iconst (v := (4 : Int32)) hx hb dX6_digest_78 (by decide) ?_
      refine lv_icmp_ge (tgt := 134) hx hb dX6_digest_79 (by decide) (fun c21 => ?_) (fun c21 => ?_)
      · have hf := oo_t hf c21
        cases hf
        exact kk _ _ _ hP hD hS (lv_sub hl [0] rfl)
      · have hf := oo_f hf c21
        refine lv_aload_n hx hb dX6_digest_82 rfl (lv_at hl 0 rfl) ?_
        refine va_get (ci := 6) (v := .ref (ad 19)) (C := RX6) (T := TX6) (N := 34) hx hb hts hin_X6 hown hK hP 0 rfl rfl 9 (by decide) fl_29 (fun _ h9 => h9) rfl dX6_digest_83 ?_
        refine lv_iload_n hx hb dX6_digest_86 rfl (lv_at hl 1 rfl) ?_
        obtain ⟨g22, hf⟩ := oo_g hf
        refine va_iald hx hb hK hP 4 0 rfl rfl g22 dX6_digest_87 ?_
        obtain ⟨mo_h_23, hj25, hf⟩ := oo_b hf
        try dsimp only at hf
        have kj24 : ∀ (H : Heap) (locs : List Loc) (ls : Array Slot), va_P D vwCl (wdM cI cJ ad mo_pageLength mo_page mo_nodes mo_links mo_fromOf mo_toOf mo_width mo_drawn mo_seed mo_bundleOf mo_netsRead mo_sent mo_passagesEver mo_astrayEver mo_loopsEver mo_newNodes mo_newPairs mo_due mo_newOne mo_newFrom mo_newTo mo_marks mo_drawing mo_leftOf mo_wayMany mo_wayAt mo_bitsNow mo_passages mo_astray mo_loops mo_steps mo_reached mo_others mo_h_23) H → va_D A (wdM cI cJ ad mo_pageLength mo_page mo_nodes mo_links mo_fromOf mo_toOf mo_width mo_drawn mo_seed mo_bundleOf mo_netsRead mo_sent mo_passagesEver mo_astrayEver mo_loopsEver mo_newNodes mo_newPairs mo_due mo_newOne mo_newFrom mo_newTo mo_marks mo_drawing mo_leftOf mo_wayMany mo_wayAt mo_bitsNow mo_passages mo_astray mo_loops mo_steps mo_reached mo_others mo_h_23) → va_S A s.heap H locs → lv_has ls 3 [(0, .ref (ad 15)), (1, .int x1_a77)] → W p l e rm_X6_digest s m args below meth c H locs 0 0 Q (F0 m 128 ls []) := by
          intro H locs ls hP hD hS hl
          refine lv_iinc (v := (x1_a77 + (1 : Int32))) (lv' := [(1, .int (x1_a77 + (1 : Int32))), (0, .ref (ad 15))]) hx hb dX6_digest_128 hl (k := 1) rfl rfl (by decide) rfl (fun ls hl => ?_)
          refine lv_goto (tgt := 77) hx hb dX6_digest_131 (by decide) ?_
          exact ih mo_h_23 (x1_a77 + (1 : Int32)) _ hf kk _ _ _ hP hD hS (lv_sub hl [1, 0] rfl)
        clear hf
        have hf := hj25
        clear hj25
        refine lv_if_eq (tgt := 128) hx hb dX6_digest_88 (by decide) (fun c26 => ?_) (fun c26 => ?_)
        · have hf := oo_t hf c26
          cases hf
          exact kj24 _ _ _ hP hD hS (lv_sub hl [0, 1] rfl)
        · have hf := oo_f hf c26
          refine lv_aload_n hx hb dX6_digest_91 rfl (lv_at hl 0 rfl) ?_
          refine lv_iload_n hx hb dX6_digest_92 rfl (lv_at hl 1 rfl) ?_
          refine lv_i2l (v := (x1_a77).toInt64) hx hb dX6_digest_93 rfl ?_
          have F : Fr D A _ (wdM cI cJ ad mo_pageLength mo_page mo_nodes mo_links mo_fromOf mo_toOf mo_width mo_drawn mo_seed mo_bundleOf mo_netsRead mo_sent mo_passagesEver mo_astrayEver mo_loopsEver mo_newNodes mo_newPairs mo_due mo_newOne mo_newFrom mo_newTo mo_marks mo_drawing mo_leftOf mo_wayMany mo_wayAt mo_bitsNow mo_passages mo_astray mo_loops mo_steps mo_reached mo_others mo_h_a77) (wdM cI cJ ad mo_pageLength mo_page mo_nodes mo_links mo_fromOf mo_toOf mo_width mo_drawn mo_seed mo_bundleOf mo_netsRead mo_sent mo_passagesEver mo_astrayEver mo_loopsEver mo_newNodes mo_newPairs mo_due mo_newOne mo_newFrom mo_newTo mo_marks mo_drawing mo_leftOf mo_wayMany mo_wayAt mo_bitsNow mo_passages mo_astray mo_loops mo_steps mo_reached mo_others (f_X6_mix mo_h_a77 ((x1_a77).toInt64))) (wdM cI cJ ad mo_pageLength mo_page mo_nodes mo_links mo_fromOf mo_toOf mo_width mo_drawn mo_seed mo_bundleOf mo_netsRead mo_sent mo_passagesEver mo_astrayEver mo_loopsEver mo_newNodes mo_newPairs mo_due mo_newOne mo_newFrom mo_newTo mo_marks mo_drawing mo_leftOf mo_wayMany mo_wayAt mo_bitsNow mo_passages mo_astray mo_loops mo_steps mo_reached mo_others (f_X6_mix mo_h_a77 ((x1_a77).toInt64))) := fr_self hP hD hS hA
          refine kV F hS (rV (q := (RX6, TX6, 34)) (As := [.long ((x1_a77).toInt64)]) (rest := []) ⟨hx, hb, hml, hown, hts⟩ hK hN F (c_X6_mix l D cI cJ ad _ (mo_pageLength := mo_pageLength) (mo_page := mo_page) (mo_nodes := mo_nodes) (mo_links := mo_links) (mo_fromOf := mo_fromOf) (mo_toOf := mo_toOf) (mo_width := mo_width) (mo_drawn := mo_drawn) (mo_seed := mo_seed) (mo_bundleOf := mo_bundleOf) (mo_netsRead := mo_netsRead) (mo_sent := mo_sent) (mo_passagesEver := mo_passagesEver) (mo_astrayEver := mo_astrayEver) (mo_loopsEver := mo_loopsEver) (mo_newNodes := mo_newNodes) (mo_newPairs := mo_newPairs) (mo_due := mo_due) (mo_newOne := mo_newOne) (mo_newFrom := mo_newFrom) (mo_newTo := mo_newTo) (mo_marks := mo_marks) (mo_drawing := mo_drawing) (mo_leftOf := mo_leftOf) (mo_wayMany := mo_wayMany) (mo_wayAt := mo_wayAt) (mo_bitsNow := mo_bitsNow) (mo_passages := mo_passages) (mo_astray := mo_astray) (mo_loops := mo_loops) (mo_steps := mo_steps) (mo_reached := mo_reached) (mo_others := mo_others) (mo_h := mo_h_a77) ((x1_a77).toInt64) (o_mo_h := (f_X6_mix mo_h_a77 ((x1_a77).toInt64))) rfl) (cwV 1 hts gX6_digest_X6_mix rfl rfl rfl (by decide +kernel) ⟨Nat.le_of_ble_eq_true rfl, Nat.le_of_ble_eq_true rfl⟩) (ci := 6) rfl rfl rfl hl.1 rfl (Nat.le_of_ble_eq_true rfl) dX6_digest_94 ⟨Nat.zero_le _, Nat.zero_le _⟩) (fun H locs hP hD hS => ?_)
          refine lv_iconst (v := (0 : Int32)) hx hb dX6_digest_97 (by decide) ?_
          refine lv_istore_n (lv' := [(2, .int (0 : Int32)), (0, .ref (ad 15)), (1, .int x1_a77)]) hx hb dX6_digest_98 rfl hl (by decide) rfl (fun ls hl => ?_)
          have lp29 : ∀ (n : Nat) (mo_h_a99 : Int64) (x2_a99 : Int32) (mo_h_o28 : Int64), f_X6_digest_L99 mo_marks x1_a77 n mo_h_a99 x2_a99 = some mo_h_o28 → (∀ (H : Heap) (locs : List Loc) (ls : Array Slot), va_P D vwCl (wdM cI cJ ad mo_pageLength mo_page mo_nodes mo_links mo_fromOf mo_toOf mo_width mo_drawn mo_seed mo_bundleOf mo_netsRead mo_sent mo_passagesEver mo_astrayEver mo_loopsEver mo_newNodes mo_newPairs mo_due mo_newOne mo_newFrom mo_newTo mo_marks mo_drawing mo_leftOf mo_wayMany mo_wayAt mo_bitsNow mo_passages mo_astray mo_loops mo_steps mo_reached mo_others mo_h_o28) H → va_D A (wdM cI cJ ad mo_pageLength mo_page mo_nodes mo_links mo_fromOf mo_toOf mo_width mo_drawn mo_seed mo_bundleOf mo_netsRead mo_sent mo_passagesEver mo_astrayEver mo_loopsEver mo_newNodes mo_newPairs mo_due mo_newOne mo_newFrom mo_newTo mo_marks mo_drawing mo_leftOf mo_wayMany mo_wayAt mo_bitsNow mo_passages mo_astray mo_loops mo_steps mo_reached mo_others mo_h_o28) → va_S A s.heap H locs → lv_has ls 3 [(0, .ref (ad 15)), (1, .int x1_a77)] → W p l e rm_X6_digest s m args below meth c H locs 0 0 Q (F0 m 128 ls [])) → ∀ (H : Heap) (locs : List Loc) (ls : Array Slot), va_P D vwCl (wdM cI cJ ad mo_pageLength mo_page mo_nodes mo_links mo_fromOf mo_toOf mo_width mo_drawn mo_seed mo_bundleOf mo_netsRead mo_sent mo_passagesEver mo_astrayEver mo_loopsEver mo_newNodes mo_newPairs mo_due mo_newOne mo_newFrom mo_newTo mo_marks mo_drawing mo_leftOf mo_wayMany mo_wayAt mo_bitsNow mo_passages mo_astray mo_loops mo_steps mo_reached mo_others mo_h_a99) H → va_D A (wdM cI cJ ad mo_pageLength mo_page mo_nodes mo_links mo_fromOf mo_toOf mo_width mo_drawn mo_seed mo_bundleOf mo_netsRead mo_sent mo_passagesEver mo_astrayEver mo_loopsEver mo_newNodes mo_newPairs mo_due mo_newOne mo_newFrom mo_newTo mo_marks mo_drawing mo_leftOf mo_wayMany mo_wayAt mo_bitsNow mo_passages mo_astray mo_loops mo_steps mo_reached mo_others mo_h_a99) → va_S A s.heap H locs → lv_has ls 3 [(0, .ref (ad 15)), (1, .int x1_a77), (2, .int x2_a99)] → W p l e rm_X6_digest s m args below meth c H locs 0 0 Q (F0 m 99 ls []) := by
            intro n
            induction n with
            | zero =>
              intro mo_h_a99 x2_a99 mo_h_o28 h0
              exact oo_n h0
            | succ n ih =>
              intro mo_h_a99 x2_a99 mo_h_o28 hf kk H locs ls hP hD hS hl
              rw [f_X6_digest_L99_s] at hf
              refine lv_iload_n hx hb dX6_digest_99 rfl (lv_at hl 2 rfl) ?_
              refine lv_iconst (v := (3 : Int32)) hx hb dX6_digest_100 (by decide) ?_
              refine lv_icmp_ge (tgt := 128) hx hb dX6_digest_101 (by decide) (fun c30 => ?_) (fun c30 => ?_)
              · have hf := oo_t hf c30
                cases hf
                exact kk _ _ _ hP hD hS (lv_sub hl [0, 1] rfl)
              · have hf := oo_f hf c30
                refine lv_aload_n hx hb dX6_digest_104 rfl (lv_at hl 0 rfl) ?_
                refine lv_aload_n hx hb dX6_digest_105 rfl (lv_at hl 0 rfl) ?_
                refine va_get (ci := 6) (v := .ref (ad 22)) (C := RX6) (T := TX6) (N := 34) hx hb hts hin_X6 hown hK hP 0 rfl rfl 21 (by decide) fl_38 (fun _ h9 => h9) rfl dX6_digest_106 ?_
                refine lv_bipush (v := (20 : Int32)) hx hb dX6_digest_109 (by decide) ?_
                refine lv_iload_n hx hb dX6_digest_111 rfl (lv_at hl 2 rfl) ?_
                refine lv_imul hx hb dX6_digest_112 ?_
                refine lv_bipush (v := (16 : Int32)) hx hb dX6_digest_113 (by decide) ?_
                refine lv_iadd hx hb dX6_digest_115 ?_
                refine lv_iload_n hx hb dX6_digest_116 rfl (lv_at hl 1 rfl) ?_
                refine lv_iadd hx hb dX6_digest_117 ?_
                obtain ⟨g31, hf⟩ := oo_g hf
                refine va_lald hx hb hK hP 7 1 rfl rfl g31 dX6_digest_118 ?_
                have F : Fr D A _ (wdM cI cJ ad mo_pageLength mo_page mo_nodes mo_links mo_fromOf mo_toOf mo_width mo_drawn mo_seed mo_bundleOf mo_netsRead mo_sent mo_passagesEver mo_astrayEver mo_loopsEver mo_newNodes mo_newPairs mo_due mo_newOne mo_newFrom mo_newTo mo_marks mo_drawing mo_leftOf mo_wayMany mo_wayAt mo_bitsNow mo_passages mo_astray mo_loops mo_steps mo_reached mo_others mo_h_a99) (wdM cI cJ ad mo_pageLength mo_page mo_nodes mo_links mo_fromOf mo_toOf mo_width mo_drawn mo_seed mo_bundleOf mo_netsRead mo_sent mo_passagesEver mo_astrayEver mo_loopsEver mo_newNodes mo_newPairs mo_due mo_newOne mo_newFrom mo_newTo mo_marks mo_drawing mo_leftOf mo_wayMany mo_wayAt mo_bitsNow mo_passages mo_astray mo_loops mo_steps mo_reached mo_others (f_X6_mix mo_h_a99 (mo_marks (((((20 : Int32) * x2_a99) + (16 : Int32)) + x1_a77)).toNatClampNeg))) (wdM cI cJ ad mo_pageLength mo_page mo_nodes mo_links mo_fromOf mo_toOf mo_width mo_drawn mo_seed mo_bundleOf mo_netsRead mo_sent mo_passagesEver mo_astrayEver mo_loopsEver mo_newNodes mo_newPairs mo_due mo_newOne mo_newFrom mo_newTo mo_marks mo_drawing mo_leftOf mo_wayMany mo_wayAt mo_bitsNow mo_passages mo_astray mo_loops mo_steps mo_reached mo_others (f_X6_mix mo_h_a99 (mo_marks (((((20 : Int32) * x2_a99) + (16 : Int32)) + x1_a77)).toNatClampNeg))) := fr_self hP hD hS hA
                refine kV F hS (rV (q := (RX6, TX6, 34)) (As := [.long (mo_marks (((((20 : Int32) * x2_a99) + (16 : Int32)) + x1_a77)).toNatClampNeg)]) (rest := []) ⟨hx, hb, hml, hown, hts⟩ hK hN F (c_X6_mix l D cI cJ ad _ (mo_pageLength := mo_pageLength) (mo_page := mo_page) (mo_nodes := mo_nodes) (mo_links := mo_links) (mo_fromOf := mo_fromOf) (mo_toOf := mo_toOf) (mo_width := mo_width) (mo_drawn := mo_drawn) (mo_seed := mo_seed) (mo_bundleOf := mo_bundleOf) (mo_netsRead := mo_netsRead) (mo_sent := mo_sent) (mo_passagesEver := mo_passagesEver) (mo_astrayEver := mo_astrayEver) (mo_loopsEver := mo_loopsEver) (mo_newNodes := mo_newNodes) (mo_newPairs := mo_newPairs) (mo_due := mo_due) (mo_newOne := mo_newOne) (mo_newFrom := mo_newFrom) (mo_newTo := mo_newTo) (mo_marks := mo_marks) (mo_drawing := mo_drawing) (mo_leftOf := mo_leftOf) (mo_wayMany := mo_wayMany) (mo_wayAt := mo_wayAt) (mo_bitsNow := mo_bitsNow) (mo_passages := mo_passages) (mo_astray := mo_astray) (mo_loops := mo_loops) (mo_steps := mo_steps) (mo_reached := mo_reached) (mo_others := mo_others) (mo_h := mo_h_a99) (mo_marks (((((20 : Int32) * x2_a99) + (16 : Int32)) + x1_a77)).toNatClampNeg) (o_mo_h := (f_X6_mix mo_h_a99 (mo_marks (((((20 : Int32) * x2_a99) + (16 : Int32)) + x1_a77)).toNatClampNeg))) rfl) (cwV 1 hts gX6_digest_X6_mix rfl rfl rfl (by decide +kernel) ⟨Nat.le_of_ble_eq_true rfl, Nat.le_of_ble_eq_true rfl⟩) (ci := 6) rfl rfl rfl hl.1 rfl (Nat.le_of_ble_eq_true rfl) dX6_digest_119 ⟨Nat.zero_le _, Nat.zero_le _⟩) (fun H locs hP hD hS => ?_)
                refine lv_iinc (v := (x2_a99 + (1 : Int32))) (lv' := [(2, .int (x2_a99 + (1 : Int32))), (0, .ref (ad 15)), (1, .int x1_a77)]) hx hb dX6_digest_122 hl (k := 2) rfl rfl (by decide) rfl (fun ls hl => ?_)
                refine lv_goto (tgt := 99) hx hb dX6_digest_125 (by decide) ?_
                exact ih (f_X6_mix mo_h_a99 (mo_marks (((((20 : Int32) * x2_a99) + (16 : Int32)) + x1_a77)).toNatClampNeg)) (x2_a99 + (1 : Int32)) _ hf kk _ _ _ hP hD hS (lv_sub hl [1, 2, 0] rfl)
          obtain ⟨mo_h_o28, h33, hf⟩ := oo_b hf
          try dsimp only at hf
          refine lp29  100 (f_X6_mix mo_h_a77 ((x1_a77).toInt64)) (0 : Int32) mo_h_o28 h33 (fun H locs ls hP hD hS hl => ?_) _ _ _ hP hD hS (lv_sub hl [1, 2, 0] rfl)
          cases hf
          exact kj24 _ _ _ hP hD hS (lv_sub hl [0, 1] rfl)
  obtain ⟨mo_h_o19, h34, hf⟩ := oo_b hf
  try dsimp only at hf
  refine lp20  100 mo_h_o1 (0 : Int32) mo_h_o19 h34 (fun H locs ls hP hD hS hl => ?_) _ _ _ hP hD hS (lv_sub hl [1, 0] rfl)
  refine lv_iconst (v := (0 : Int32)) hx hb dX6_digest_134 (by decide) ?_
  refine lv_istore_n (lv' := [(1, .int (0 : Int32)), (0, .ref (ad 15))]) hx hb dX6_digest_135 rfl hl (by decide) rfl (fun ls hl => ?_)
  have lp46 : ∀ (n : Nat) (mo_leftOf_a136 : Nat → Int32) (mo_wayMany_a136 : Int32) (mo_wayAt_a136 : Nat → Int32) (mo_bitsNow_a136 : Int64) (mo_passages_a136 : Int32) (mo_astray_a136 : Int32) (mo_loops_a136 : Int32) (mo_steps_a136 : Int32) (mo_reached_a136 : Int32) (mo_others_a136 : Int32) (mo_h_a136 : Int64) (x1_a136 : Int32) (mo_leftOf_o35 : Nat → Int32) (mo_wayMany_o36 : Int32) (mo_wayAt_o37 : Nat → Int32) (mo_bitsNow_o38 : Int64) (mo_passages_o39 : Int32) (mo_astray_o40 : Int32) (mo_loops_o41 : Int32) (mo_steps_o42 : Int32) (mo_reached_o43 : Int32) (mo_others_o44 : Int32) (mo_h_o45 : Int64), f_X6_digest_L136 mo_nodes mo_links mo_fromOf mo_toOf mo_width mo_drawn mo_bundleOf mo_marks n mo_leftOf_a136 mo_wayMany_a136 mo_wayAt_a136 mo_bitsNow_a136 mo_passages_a136 mo_astray_a136 mo_loops_a136 mo_steps_a136 mo_reached_a136 mo_others_a136 mo_h_a136 x1_a136 = some (mo_leftOf_o35, mo_wayMany_o36, mo_wayAt_o37, mo_bitsNow_o38, mo_passages_o39, mo_astray_o40, mo_loops_o41, mo_steps_o42, mo_reached_o43, mo_others_o44, mo_h_o45) → (∀ (H : Heap) (locs : List Loc) (ls : Array Slot), va_P D vwCl (wdM cI cJ ad mo_pageLength mo_page mo_nodes mo_links mo_fromOf mo_toOf mo_width mo_drawn mo_seed mo_bundleOf mo_netsRead mo_sent mo_passagesEver mo_astrayEver mo_loopsEver mo_newNodes mo_newPairs mo_due mo_newOne mo_newFrom mo_newTo mo_marks mo_drawing mo_leftOf_o35 mo_wayMany_o36 mo_wayAt_o37 mo_bitsNow_o38 mo_passages_o39 mo_astray_o40 mo_loops_o41 mo_steps_o42 mo_reached_o43 mo_others_o44 mo_h_o45) H → va_D A (wdM cI cJ ad mo_pageLength mo_page mo_nodes mo_links mo_fromOf mo_toOf mo_width mo_drawn mo_seed mo_bundleOf mo_netsRead mo_sent mo_passagesEver mo_astrayEver mo_loopsEver mo_newNodes mo_newPairs mo_due mo_newOne mo_newFrom mo_newTo mo_marks mo_drawing mo_leftOf_o35 mo_wayMany_o36 mo_wayAt_o37 mo_bitsNow_o38 mo_passages_o39 mo_astray_o40 mo_loops_o41 mo_steps_o42 mo_reached_o43 mo_others_o44 mo_h_o45) → va_S A s.heap H locs → lv_has ls 3 [(0, .ref (ad 15))] → W p l e rm_X6_digest s m args below meth c H locs 0 0 Q (F0 m 155 ls [])) → ∀ (H : Heap) (locs : List Loc) (ls : Array Slot), va_P D vwCl (wdM cI cJ ad mo_pageLength mo_page mo_nodes mo_links mo_fromOf mo_toOf mo_width mo_drawn mo_seed mo_bundleOf mo_netsRead mo_sent mo_passagesEver mo_astrayEver mo_loopsEver mo_newNodes mo_newPairs mo_due mo_newOne mo_newFrom mo_newTo mo_marks mo_drawing mo_leftOf_a136 mo_wayMany_a136 mo_wayAt_a136 mo_bitsNow_a136 mo_passages_a136 mo_astray_a136 mo_loops_a136 mo_steps_a136 mo_reached_a136 mo_others_a136 mo_h_a136) H → va_D A (wdM cI cJ ad mo_pageLength mo_page mo_nodes mo_links mo_fromOf mo_toOf mo_width mo_drawn mo_seed mo_bundleOf mo_netsRead mo_sent mo_passagesEver mo_astrayEver mo_loopsEver mo_newNodes mo_newPairs mo_due mo_newOne mo_newFrom mo_newTo mo_marks mo_drawing mo_leftOf_a136 mo_wayMany_a136 mo_wayAt_a136 mo_bitsNow_a136 mo_passages_a136 mo_astray_a136 mo_loops_a136 mo_steps_a136 mo_reached_a136 mo_others_a136 mo_h_a136) → va_S A s.heap H locs → lv_has ls 3 [(0, .ref (ad 15)), (1, .int x1_a136)] → W p l e rm_X6_digest s m args below meth c H locs 0 0 Q (F0 m 136 ls []) := by
    intro n
    induction n with
    | zero =>
      intro mo_leftOf_a136 mo_wayMany_a136 mo_wayAt_a136 mo_bitsNow_a136 mo_passages_a136 mo_astray_a136 mo_loops_a136 mo_steps_a136 mo_reached_a136 mo_others_a136 mo_h_a136 x1_a136 mo_leftOf_o35 mo_wayMany_o36 mo_wayAt_o37 mo_bitsNow_o38 mo_passages_o39 mo_astray_o40 mo_loops_o41 mo_steps_o42 mo_reached_o43 mo_others_o44 mo_h_o45 h0
      exact oo_n h0
    | succ n ih =>
      intro mo_leftOf_a136 mo_wayMany_a136 mo_wayAt_a136 mo_bitsNow_a136 mo_passages_a136 mo_astray_a136 mo_loops_a136 mo_steps_a136 mo_reached_a136 mo_others_a136 mo_h_a136 x1_a136 mo_leftOf_o35 mo_wayMany_o36 mo_wayAt_o37 mo_bitsNow_o38 mo_passages_o39 mo_astray_o40 mo_loops_o41 mo_steps_o42 mo_reached_o43 mo_others_o44 mo_h_o45 hf kk H locs ls hP hD hS hl
      rw [f_X6_digest_L136_s] at hf
      refine lv_iload_n hx hb dX6_digest_136 rfl (lv_at hl 1 rfl) ?_
      refine lv_aload_n hx hb dX6_digest_137 rfl (lv_at hl 0 rfl) ?_
      refine va_get (ci := 6) (v := .int mo_nodes) (C := RX6) (T := TX6) (N := 34) hx hb hts hin_X6 hown hK hP 0 rfl rfl 2 (by decide) fl_82 (fun _ h9 => h9) rfl dX6_digest_138 ?_
      refine lv_icmp_ge (tgt := 155) hx hb dX6_digest_141 (by decide) (fun c47 => ?_) (fun c47 => ?_)
      · have hf := oo_t hf c47
        cases hf
        exact kk _ _ _ hP hD hS (lv_sub hl [0] rfl)
      · have hf := oo_f hf c47
        refine lv_aload_n hx hb dX6_digest_144 rfl (lv_at hl 0 rfl) ?_
        refine lv_iload_n hx hb dX6_digest_145 rfl (lv_at hl 1 rfl) ?_
        obtain ⟨⟨mo_leftOf_49, mo_wayMany_50, mo_wayAt_51, mo_bitsNow_52, mo_passages_53, mo_astray_54, mo_loops_55, mo_steps_56, mo_reached_57, mo_others_58, mo_h_59⟩, h48, hf⟩ := oo_b hf
        try dsimp only at hf
        have F : Fr D A _ (wdM cI cJ ad mo_pageLength mo_page mo_nodes mo_links mo_fromOf mo_toOf mo_width mo_drawn mo_seed mo_bundleOf mo_netsRead mo_sent mo_passagesEver mo_astrayEver mo_loopsEver mo_newNodes mo_newPairs mo_due mo_newOne mo_newFrom mo_newTo mo_marks mo_drawing mo_leftOf_a136 mo_wayMany_a136 mo_wayAt_a136 mo_bitsNow_a136 mo_passages_a136 mo_astray_a136 mo_loops_a136 mo_steps_a136 mo_reached_a136 mo_others_a136 mo_h_a136) (wdM cI cJ ad mo_pageLength mo_page mo_nodes mo_links mo_fromOf mo_toOf mo_width mo_drawn mo_seed mo_bundleOf mo_netsRead mo_sent mo_passagesEver mo_astrayEver mo_loopsEver mo_newNodes mo_newPairs mo_due mo_newOne mo_newFrom mo_newTo mo_marks mo_drawing mo_leftOf_49 mo_wayMany_50 mo_wayAt_51 mo_bitsNow_52 mo_passages_53 mo_astray_54 mo_loops_55 mo_steps_56 mo_reached_57 mo_others_58 mo_h_59) (wdM cI cJ ad mo_pageLength mo_page mo_nodes mo_links mo_fromOf mo_toOf mo_width mo_drawn mo_seed mo_bundleOf mo_netsRead mo_sent mo_passagesEver mo_astrayEver mo_loopsEver mo_newNodes mo_newPairs mo_due mo_newOne mo_newFrom mo_newTo mo_marks mo_drawing mo_leftOf_49 mo_wayMany_50 mo_wayAt_51 mo_bitsNow_52 mo_passages_53 mo_astray_54 mo_loops_55 mo_steps_56 mo_reached_57 mo_others_58 mo_h_59) := fr_self hP hD hS hA
        refine kV F hS (rV (q := (RX6, TX6, 34)) (As := [.int x1_a136]) (rest := []) ⟨hx, hb, hml, hown, hts⟩ hK hN F (c_X6_mixNode l D cI cJ ad _ (mo_pageLength := mo_pageLength) (mo_page := mo_page) (mo_nodes := mo_nodes) (mo_links := mo_links) (mo_fromOf := mo_fromOf) (mo_toOf := mo_toOf) (mo_width := mo_width) (mo_drawn := mo_drawn) (mo_seed := mo_seed) (mo_bundleOf := mo_bundleOf) (mo_netsRead := mo_netsRead) (mo_sent := mo_sent) (mo_passagesEver := mo_passagesEver) (mo_astrayEver := mo_astrayEver) (mo_loopsEver := mo_loopsEver) (mo_newNodes := mo_newNodes) (mo_newPairs := mo_newPairs) (mo_due := mo_due) (mo_newOne := mo_newOne) (mo_newFrom := mo_newFrom) (mo_newTo := mo_newTo) (mo_marks := mo_marks) (mo_drawing := mo_drawing) (mo_leftOf := mo_leftOf_a136) (mo_wayMany := mo_wayMany_a136) (mo_wayAt := mo_wayAt_a136) (mo_bitsNow := mo_bitsNow_a136) (mo_passages := mo_passages_a136) (mo_astray := mo_astray_a136) (mo_loops := mo_loops_a136) (mo_steps := mo_steps_a136) (mo_reached := mo_reached_a136) (mo_others := mo_others_a136) (mo_h := mo_h_a136) x1_a136 (o_mo_leftOf := mo_leftOf_49) (o_mo_wayMany := mo_wayMany_50) (o_mo_wayAt := mo_wayAt_51) (o_mo_bitsNow := mo_bitsNow_52) (o_mo_passages := mo_passages_53) (o_mo_astray := mo_astray_54) (o_mo_loops := mo_loops_55) (o_mo_steps := mo_steps_56) (o_mo_reached := mo_reached_57) (o_mo_others := mo_others_58) (o_mo_h := mo_h_59) h48) (cwV 1 hts gX6_digest_X6_mixNode rfl rfl rfl (by decide +kernel) ⟨Nat.le_of_ble_eq_true rfl, Nat.le_of_ble_eq_true rfl⟩) (ci := 6) rfl rfl rfl hl.1 rfl (Nat.le_of_ble_eq_true rfl) dX6_digest_146 ⟨Nat.zero_le _, Nat.zero_le _⟩) (fun H locs hP hD hS => ?_)
        refine lv_iinc (v := (x1_a136 + (1 : Int32))) (lv' := [(1, .int (x1_a136 + (1 : Int32))), (0, .ref (ad 15))]) hx hb dX6_digest_149 hl (k := 1) rfl rfl (by decide) rfl (fun ls hl => ?_)
        refine lv_goto (tgt := 136) hx hb dX6_digest_152 (by decide) ?_
        exact ih mo_leftOf_49 mo_wayMany_50 mo_wayAt_51 mo_bitsNow_52 mo_passages_53 mo_astray_54 mo_loops_55 mo_steps_56 mo_reached_57 mo_others_58 mo_h_59 (x1_a136 + (1 : Int32)) _ _ _ _ _ _ _ _ _ _ _ hf kk _ _ _ hP hD hS (lv_sub hl [1, 0] rfl)
  obtain ⟨⟨mo_leftOf_o35, mo_wayMany_o36, mo_wayAt_o37, mo_bitsNow_o38, mo_passages_o39, mo_astray_o40, mo_loops_o41, mo_steps_o42, mo_reached_o43, mo_others_o44, mo_h_o45⟩, h61, hf⟩ := oo_b hf
  try dsimp only at hf
  refine lp46  100 mo_leftOf mo_wayMany mo_wayAt mo_bitsNow mo_passages mo_astray mo_loops mo_steps mo_reached mo_others mo_h_o19 (0 : Int32) mo_leftOf_o35 mo_wayMany_o36 mo_wayAt_o37 mo_bitsNow_o38 mo_passages_o39 mo_astray_o40 mo_loops_o41 mo_steps_o42 mo_reached_o43 mo_others_o44 mo_h_o45 h61 (fun H locs ls hP hD hS hl => ?_) _ _ _ hP hD hS (lv_sub hl [1, 0] rfl)
  refine lv_iconst (v := (0 : Int32)) hx hb dX6_digest_155 (by decide) ?_
  refine lv_istore_n (lv' := [(1, .int (0 : Int32)), (0, .ref (ad 15))]) hx hb dX6_digest_156 rfl hl (by decide) rfl (fun ls hl => ?_)
  have lp63 : ∀ (n : Nat) (mo_h_a157 : Int64) (x1_a157 : Int32) (mo_h_o62 : Int64), f_X6_digest_L157 mo_pageLength mo_page n mo_h_a157 x1_a157 = some mo_h_o62 → (∀ (H : Heap) (locs : List Loc) (ls : Array Slot), va_P D vwCl (wdM cI cJ ad mo_pageLength mo_page mo_nodes mo_links mo_fromOf mo_toOf mo_width mo_drawn mo_seed mo_bundleOf mo_netsRead mo_sent mo_passagesEver mo_astrayEver mo_loopsEver mo_newNodes mo_newPairs mo_due mo_newOne mo_newFrom mo_newTo mo_marks mo_drawing mo_leftOf_o35 mo_wayMany_o36 mo_wayAt_o37 mo_bitsNow_o38 mo_passages_o39 mo_astray_o40 mo_loops_o41 mo_steps_o42 mo_reached_o43 mo_others_o44 mo_h_o62) H → va_D A (wdM cI cJ ad mo_pageLength mo_page mo_nodes mo_links mo_fromOf mo_toOf mo_width mo_drawn mo_seed mo_bundleOf mo_netsRead mo_sent mo_passagesEver mo_astrayEver mo_loopsEver mo_newNodes mo_newPairs mo_due mo_newOne mo_newFrom mo_newTo mo_marks mo_drawing mo_leftOf_o35 mo_wayMany_o36 mo_wayAt_o37 mo_bitsNow_o38 mo_passages_o39 mo_astray_o40 mo_loops_o41 mo_steps_o42 mo_reached_o43 mo_others_o44 mo_h_o62) → va_S A s.heap H locs → lv_has ls 3 [(0, .ref (ad 15))] → W p l e rm_X6_digest s m args below meth c H locs 0 0 Q (F0 m 182 ls [])) → ∀ (H : Heap) (locs : List Loc) (ls : Array Slot), va_P D vwCl (wdM cI cJ ad mo_pageLength mo_page mo_nodes mo_links mo_fromOf mo_toOf mo_width mo_drawn mo_seed mo_bundleOf mo_netsRead mo_sent mo_passagesEver mo_astrayEver mo_loopsEver mo_newNodes mo_newPairs mo_due mo_newOne mo_newFrom mo_newTo mo_marks mo_drawing mo_leftOf_o35 mo_wayMany_o36 mo_wayAt_o37 mo_bitsNow_o38 mo_passages_o39 mo_astray_o40 mo_loops_o41 mo_steps_o42 mo_reached_o43 mo_others_o44 mo_h_a157) H → va_D A (wdM cI cJ ad mo_pageLength mo_page mo_nodes mo_links mo_fromOf mo_toOf mo_width mo_drawn mo_seed mo_bundleOf mo_netsRead mo_sent mo_passagesEver mo_astrayEver mo_loopsEver mo_newNodes mo_newPairs mo_due mo_newOne mo_newFrom mo_newTo mo_marks mo_drawing mo_leftOf_o35 mo_wayMany_o36 mo_wayAt_o37 mo_bitsNow_o38 mo_passages_o39 mo_astray_o40 mo_loops_o41 mo_steps_o42 mo_reached_o43 mo_others_o44 mo_h_a157) → va_S A s.heap H locs → lv_has ls 3 [(0, .ref (ad 15)), (1, .int x1_a157)] → W p l e rm_X6_digest s m args below meth c H locs 0 0 Q (F0 m 157 ls []) := by
    intro n
    induction n with
    | zero =>
      intro mo_h_a157 x1_a157 mo_h_o62 h0
      exact oo_n h0
    | succ n ih =>
      intro mo_h_a157 x1_a157 mo_h_o62 hf kk H locs ls hP hD hS hl
      rw [f_X6_digest_L157_s] at hf
      refine lv_iload_n hx hb dX6_digest_157 rfl (lv_at hl 1 rfl) ?_
      refine lv_aload_n hx hb dX6_digest_158 rfl (lv_at hl 0 rfl) ?_
      refine va_get (ci := 6) (v := .int mo_pageLength) (C := RX6) (T := TX6) (N := 34) hx hb hts hin_X6 hown hK hP 0 rfl rfl 0 (by decide) fl_52 (fun _ h9 => h9) rfl dX6_digest_159 ?_
      refine lv_icmp_ge (tgt := 182) hx hb dX6_digest_162 (by decide) (fun c64 => ?_) (fun c64 => ?_)
      · have hf := oo_t hf c64
        cases hf
        exact kk _ _ _ hP hD hS (lv_sub hl [0] rfl)
      · have hf := oo_f hf c64
        refine lv_aload_n hx hb dX6_digest_165 rfl (lv_at hl 0 rfl) ?_
        refine lv_aload_n hx hb dX6_digest_166 rfl (lv_at hl 0 rfl) ?_
        refine va_get (ci := 6) (v := .ref (ad 16)) (C := RX6) (T := TX6) (N := 34) hx hb hts hin_X6 hown hK hP 0 rfl rfl 1 (by decide) fl_7 (fun _ h9 => h9) rfl dX6_digest_167 ?_
        refine lv_iload_n hx hb dX6_digest_170 rfl (lv_at hl 1 rfl) ?_
        obtain ⟨g65, hf⟩ := oo_g hf
        refine va_iald hx hb hK hP 1 0 rfl rfl g65 dX6_digest_171 ?_
        refine lv_i2l (v := ((mo_page (x1_a157).toNatClampNeg)).toInt64) hx hb dX6_digest_172 rfl ?_
        have F : Fr D A _ (wdM cI cJ ad mo_pageLength mo_page mo_nodes mo_links mo_fromOf mo_toOf mo_width mo_drawn mo_seed mo_bundleOf mo_netsRead mo_sent mo_passagesEver mo_astrayEver mo_loopsEver mo_newNodes mo_newPairs mo_due mo_newOne mo_newFrom mo_newTo mo_marks mo_drawing mo_leftOf_o35 mo_wayMany_o36 mo_wayAt_o37 mo_bitsNow_o38 mo_passages_o39 mo_astray_o40 mo_loops_o41 mo_steps_o42 mo_reached_o43 mo_others_o44 mo_h_a157) (wdM cI cJ ad mo_pageLength mo_page mo_nodes mo_links mo_fromOf mo_toOf mo_width mo_drawn mo_seed mo_bundleOf mo_netsRead mo_sent mo_passagesEver mo_astrayEver mo_loopsEver mo_newNodes mo_newPairs mo_due mo_newOne mo_newFrom mo_newTo mo_marks mo_drawing mo_leftOf_o35 mo_wayMany_o36 mo_wayAt_o37 mo_bitsNow_o38 mo_passages_o39 mo_astray_o40 mo_loops_o41 mo_steps_o42 mo_reached_o43 mo_others_o44 (f_X6_mix mo_h_a157 (((mo_page (x1_a157).toNatClampNeg)).toInt64))) (wdM cI cJ ad mo_pageLength mo_page mo_nodes mo_links mo_fromOf mo_toOf mo_width mo_drawn mo_seed mo_bundleOf mo_netsRead mo_sent mo_passagesEver mo_astrayEver mo_loopsEver mo_newNodes mo_newPairs mo_due mo_newOne mo_newFrom mo_newTo mo_marks mo_drawing mo_leftOf_o35 mo_wayMany_o36 mo_wayAt_o37 mo_bitsNow_o38 mo_passages_o39 mo_astray_o40 mo_loops_o41 mo_steps_o42 mo_reached_o43 mo_others_o44 (f_X6_mix mo_h_a157 (((mo_page (x1_a157).toNatClampNeg)).toInt64))) := fr_self hP hD hS hA
        refine kV F hS (rV (q := (RX6, TX6, 34)) (As := [.long (((mo_page (x1_a157).toNatClampNeg)).toInt64)]) (rest := []) ⟨hx, hb, hml, hown, hts⟩ hK hN F (c_X6_mix l D cI cJ ad _ (mo_pageLength := mo_pageLength) (mo_page := mo_page) (mo_nodes := mo_nodes) (mo_links := mo_links) (mo_fromOf := mo_fromOf) (mo_toOf := mo_toOf) (mo_width := mo_width) (mo_drawn := mo_drawn) (mo_seed := mo_seed) (mo_bundleOf := mo_bundleOf) (mo_netsRead := mo_netsRead) (mo_sent := mo_sent) (mo_passagesEver := mo_passagesEver) (mo_astrayEver := mo_astrayEver) (mo_loopsEver := mo_loopsEver) (mo_newNodes := mo_newNodes) (mo_newPairs := mo_newPairs) (mo_due := mo_due) (mo_newOne := mo_newOne) (mo_newFrom := mo_newFrom) (mo_newTo := mo_newTo) (mo_marks := mo_marks) (mo_drawing := mo_drawing) (mo_leftOf := mo_leftOf_o35) (mo_wayMany := mo_wayMany_o36) (mo_wayAt := mo_wayAt_o37) (mo_bitsNow := mo_bitsNow_o38) (mo_passages := mo_passages_o39) (mo_astray := mo_astray_o40) (mo_loops := mo_loops_o41) (mo_steps := mo_steps_o42) (mo_reached := mo_reached_o43) (mo_others := mo_others_o44) (mo_h := mo_h_a157) (((mo_page (x1_a157).toNatClampNeg)).toInt64) (o_mo_h := (f_X6_mix mo_h_a157 (((mo_page (x1_a157).toNatClampNeg)).toInt64))) rfl) (cwV 1 hts gX6_digest_X6_mix rfl rfl rfl (by decide +kernel) ⟨Nat.le_of_ble_eq_true rfl, Nat.le_of_ble_eq_true rfl⟩) (ci := 6) rfl rfl rfl hl.1 rfl (Nat.le_of_ble_eq_true rfl) dX6_digest_173 ⟨Nat.zero_le _, Nat.zero_le _⟩) (fun H locs hP hD hS => ?_)
        refine lv_iinc (v := (x1_a157 + (1 : Int32))) (lv' := [(1, .int (x1_a157 + (1 : Int32))), (0, .ref (ad 15))]) hx hb dX6_digest_176 hl (k := 1) rfl rfl (by decide) rfl (fun ls hl => ?_)
        refine lv_goto (tgt := 157) hx hb dX6_digest_179 (by decide) ?_
        exact ih (f_X6_mix mo_h_a157 (((mo_page (x1_a157).toNatClampNeg)).toInt64)) (x1_a157 + (1 : Int32)) _ hf kk _ _ _ hP hD hS (lv_sub hl [1, 0] rfl)
  obtain ⟨mo_h_o62, h67, hf⟩ := oo_b hf
  try dsimp only at hf
  refine lp63  100 mo_h_o45 (0 : Int32) mo_h_o62 h67 (fun H locs ls hP hD hS hl => ?_) _ _ _ hP hD hS (lv_sub hl [1, 0] rfl)
  refine lv_iconst (v := (0 : Int32)) hx hb dX6_digest_182 (by decide) ?_
  refine lv_istore_n (lv' := [(1, .int (0 : Int32)), (0, .ref (ad 15))]) hx hb dX6_digest_183 rfl hl (by decide) rfl (fun ls hl => ?_)
  have lp69 : ∀ (n : Nat) (mo_h_a184 : Int64) (x1_a184 : Int32) (mo_h_o68 : Int64), f_X6_digest_L184 mo_pageLength mo_nodes mo_links mo_width mo_drawn mo_seed mo_bundleOf mo_netsRead mo_sent mo_passagesEver mo_astrayEver mo_loopsEver n mo_h_a184 x1_a184 = some mo_h_o68 → (∀ (H : Heap) (locs : List Loc) (ls : Array Slot), va_P D vwCl (wdM cI cJ ad mo_pageLength mo_page mo_nodes mo_links mo_fromOf mo_toOf mo_width mo_drawn mo_seed mo_bundleOf mo_netsRead mo_sent mo_passagesEver mo_astrayEver mo_loopsEver mo_newNodes mo_newPairs mo_due mo_newOne mo_newFrom mo_newTo mo_marks mo_drawing mo_leftOf_o35 mo_wayMany_o36 mo_wayAt_o37 mo_bitsNow_o38 mo_passages_o39 mo_astray_o40 mo_loops_o41 mo_steps_o42 mo_reached_o43 mo_others_o44 mo_h_o68) H → va_D A (wdM cI cJ ad mo_pageLength mo_page mo_nodes mo_links mo_fromOf mo_toOf mo_width mo_drawn mo_seed mo_bundleOf mo_netsRead mo_sent mo_passagesEver mo_astrayEver mo_loopsEver mo_newNodes mo_newPairs mo_due mo_newOne mo_newFrom mo_newTo mo_marks mo_drawing mo_leftOf_o35 mo_wayMany_o36 mo_wayAt_o37 mo_bitsNow_o38 mo_passages_o39 mo_astray_o40 mo_loops_o41 mo_steps_o42 mo_reached_o43 mo_others_o44 mo_h_o68) → va_S A s.heap H locs → lv_has ls 3 [(0, .ref (ad 15))] → W p l e rm_X6_digest s m args below meth c H locs 0 0 Q (F0 m 206 ls [])) → ∀ (H : Heap) (locs : List Loc) (ls : Array Slot), va_P D vwCl (wdM cI cJ ad mo_pageLength mo_page mo_nodes mo_links mo_fromOf mo_toOf mo_width mo_drawn mo_seed mo_bundleOf mo_netsRead mo_sent mo_passagesEver mo_astrayEver mo_loopsEver mo_newNodes mo_newPairs mo_due mo_newOne mo_newFrom mo_newTo mo_marks mo_drawing mo_leftOf_o35 mo_wayMany_o36 mo_wayAt_o37 mo_bitsNow_o38 mo_passages_o39 mo_astray_o40 mo_loops_o41 mo_steps_o42 mo_reached_o43 mo_others_o44 mo_h_a184) H → va_D A (wdM cI cJ ad mo_pageLength mo_page mo_nodes mo_links mo_fromOf mo_toOf mo_width mo_drawn mo_seed mo_bundleOf mo_netsRead mo_sent mo_passagesEver mo_astrayEver mo_loopsEver mo_newNodes mo_newPairs mo_due mo_newOne mo_newFrom mo_newTo mo_marks mo_drawing mo_leftOf_o35 mo_wayMany_o36 mo_wayAt_o37 mo_bitsNow_o38 mo_passages_o39 mo_astray_o40 mo_loops_o41 mo_steps_o42 mo_reached_o43 mo_others_o44 mo_h_a184) → va_S A s.heap H locs → lv_has ls 3 [(0, .ref (ad 15)), (1, .int x1_a184)] → W p l e rm_X6_digest s m args below meth c H locs 0 0 Q (F0 m 184 ls []) := by
    intro n
    induction n with
    | zero =>
      intro mo_h_a184 x1_a184 mo_h_o68 h0
      exact oo_n h0
    | succ n ih =>
      intro mo_h_a184 x1_a184 mo_h_o68 hf kk H locs ls hP hD hS hl
      rw [f_X6_digest_L184_s] at hf
      refine lv_iload_n hx hb dX6_digest_184 rfl (lv_at hl 1 rfl) ?_
      refine lv_bipush (v := (12 : Int32)) hx hb dX6_digest_185 (by decide) ?_
      refine lv_icmp_ge (tgt := 206) hx hb dX6_digest_187 (by decide) (fun c70 => ?_) (fun c70 => ?_)
      · have hf := oo_t hf c70
        cases hf
        exact kk _ _ _ hP hD hS (lv_sub hl [0] rfl)
      · have hf := oo_f hf c70
        refine lv_aload_n hx hb dX6_digest_190 rfl (lv_at hl 0 rfl) ?_
        refine lv_aload_n hx hb dX6_digest_191 rfl (lv_at hl 0 rfl) ?_
        refine lv_iload_n hx hb dX6_digest_192 rfl (lv_at hl 1 rfl) ?_
        obtain ⟨r72, h71, hf⟩ := oo_b hf
        try dsimp only at hf
        have F : Fr D A _ (wdM cI cJ ad mo_pageLength mo_page mo_nodes mo_links mo_fromOf mo_toOf mo_width mo_drawn mo_seed mo_bundleOf mo_netsRead mo_sent mo_passagesEver mo_astrayEver mo_loopsEver mo_newNodes mo_newPairs mo_due mo_newOne mo_newFrom mo_newTo mo_marks mo_drawing mo_leftOf_o35 mo_wayMany_o36 mo_wayAt_o37 mo_bitsNow_o38 mo_passages_o39 mo_astray_o40 mo_loops_o41 mo_steps_o42 mo_reached_o43 mo_others_o44 mo_h_a184) (wdM cI cJ ad mo_pageLength mo_page mo_nodes mo_links mo_fromOf mo_toOf mo_width mo_drawn mo_seed mo_bundleOf mo_netsRead mo_sent mo_passagesEver mo_astrayEver mo_loopsEver mo_newNodes mo_newPairs mo_due mo_newOne mo_newFrom mo_newTo mo_marks mo_drawing mo_leftOf_o35 mo_wayMany_o36 mo_wayAt_o37 mo_bitsNow_o38 mo_passages_o39 mo_astray_o40 mo_loops_o41 mo_steps_o42 mo_reached_o43 mo_others_o44 mo_h_a184) (wdM cI cJ ad mo_pageLength mo_page mo_nodes mo_links mo_fromOf mo_toOf mo_width mo_drawn mo_seed mo_bundleOf mo_netsRead mo_sent mo_passagesEver mo_astrayEver mo_loopsEver mo_newNodes mo_newPairs mo_due mo_newOne mo_newFrom mo_newTo mo_marks mo_drawing mo_leftOf_o35 mo_wayMany_o36 mo_wayAt_o37 mo_bitsNow_o38 mo_passages_o39 mo_astray_o40 mo_loops_o41 mo_steps_o42 mo_reached_o43 mo_others_o44 mo_h_a184) := fr_self hP hD hS hA
        refine kI F hS (rV (q := (RX6, TX6, 34)) (As := [.int x1_a184]) (rest := [.ref (ad 15)]) ⟨hx, hb, hml, hown, hts⟩ hK hN F (c_X6_howMany l D cI cJ ad _ (mo_pageLength := mo_pageLength) (mo_page := mo_page) (mo_nodes := mo_nodes) (mo_links := mo_links) (mo_fromOf := mo_fromOf) (mo_toOf := mo_toOf) (mo_width := mo_width) (mo_drawn := mo_drawn) (mo_seed := mo_seed) (mo_bundleOf := mo_bundleOf) (mo_netsRead := mo_netsRead) (mo_sent := mo_sent) (mo_passagesEver := mo_passagesEver) (mo_astrayEver := mo_astrayEver) (mo_loopsEver := mo_loopsEver) (mo_newNodes := mo_newNodes) (mo_newPairs := mo_newPairs) (mo_due := mo_due) (mo_newOne := mo_newOne) (mo_newFrom := mo_newFrom) (mo_newTo := mo_newTo) (mo_marks := mo_marks) (mo_drawing := mo_drawing) (mo_leftOf := mo_leftOf_o35) (mo_wayMany := mo_wayMany_o36) (mo_wayAt := mo_wayAt_o37) (mo_bitsNow := mo_bitsNow_o38) (mo_passages := mo_passages_o39) (mo_astray := mo_astray_o40) (mo_loops := mo_loops_o41) (mo_steps := mo_steps_o42) (mo_reached := mo_reached_o43) (mo_others := mo_others_o44) (mo_h := mo_h_a184) x1_a184 (o_res := r72) h71) (cwV 1 hts gX6_digest_X6_howMany rfl rfl rfl (by decide +kernel) ⟨Nat.le_of_ble_eq_true rfl, Nat.le_of_ble_eq_true rfl⟩) (ci := 6) rfl rfl rfl hl.1 rfl (Nat.le_of_ble_eq_true rfl) dX6_digest_193 ⟨Nat.zero_le _, Nat.zero_le _⟩) (fun H locs hP hD hS => ?_)
        refine lv_i2l (v := (r72).toInt64) hx hb dX6_digest_196 rfl ?_
        have F : Fr D A _ (wdM cI cJ ad mo_pageLength mo_page mo_nodes mo_links mo_fromOf mo_toOf mo_width mo_drawn mo_seed mo_bundleOf mo_netsRead mo_sent mo_passagesEver mo_astrayEver mo_loopsEver mo_newNodes mo_newPairs mo_due mo_newOne mo_newFrom mo_newTo mo_marks mo_drawing mo_leftOf_o35 mo_wayMany_o36 mo_wayAt_o37 mo_bitsNow_o38 mo_passages_o39 mo_astray_o40 mo_loops_o41 mo_steps_o42 mo_reached_o43 mo_others_o44 mo_h_a184) (wdM cI cJ ad mo_pageLength mo_page mo_nodes mo_links mo_fromOf mo_toOf mo_width mo_drawn mo_seed mo_bundleOf mo_netsRead mo_sent mo_passagesEver mo_astrayEver mo_loopsEver mo_newNodes mo_newPairs mo_due mo_newOne mo_newFrom mo_newTo mo_marks mo_drawing mo_leftOf_o35 mo_wayMany_o36 mo_wayAt_o37 mo_bitsNow_o38 mo_passages_o39 mo_astray_o40 mo_loops_o41 mo_steps_o42 mo_reached_o43 mo_others_o44 (f_X6_mix mo_h_a184 ((r72).toInt64))) (wdM cI cJ ad mo_pageLength mo_page mo_nodes mo_links mo_fromOf mo_toOf mo_width mo_drawn mo_seed mo_bundleOf mo_netsRead mo_sent mo_passagesEver mo_astrayEver mo_loopsEver mo_newNodes mo_newPairs mo_due mo_newOne mo_newFrom mo_newTo mo_marks mo_drawing mo_leftOf_o35 mo_wayMany_o36 mo_wayAt_o37 mo_bitsNow_o38 mo_passages_o39 mo_astray_o40 mo_loops_o41 mo_steps_o42 mo_reached_o43 mo_others_o44 (f_X6_mix mo_h_a184 ((r72).toInt64))) := fr_self hP hD hS hA
        refine kV F hS (rV (q := (RX6, TX6, 34)) (As := [.long ((r72).toInt64)]) (rest := []) ⟨hx, hb, hml, hown, hts⟩ hK hN F (c_X6_mix l D cI cJ ad _ (mo_pageLength := mo_pageLength) (mo_page := mo_page) (mo_nodes := mo_nodes) (mo_links := mo_links) (mo_fromOf := mo_fromOf) (mo_toOf := mo_toOf) (mo_width := mo_width) (mo_drawn := mo_drawn) (mo_seed := mo_seed) (mo_bundleOf := mo_bundleOf) (mo_netsRead := mo_netsRead) (mo_sent := mo_sent) (mo_passagesEver := mo_passagesEver) (mo_astrayEver := mo_astrayEver) (mo_loopsEver := mo_loopsEver) (mo_newNodes := mo_newNodes) (mo_newPairs := mo_newPairs) (mo_due := mo_due) (mo_newOne := mo_newOne) (mo_newFrom := mo_newFrom) (mo_newTo := mo_newTo) (mo_marks := mo_marks) (mo_drawing := mo_drawing) (mo_leftOf := mo_leftOf_o35) (mo_wayMany := mo_wayMany_o36) (mo_wayAt := mo_wayAt_o37) (mo_bitsNow := mo_bitsNow_o38) (mo_passages := mo_passages_o39) (mo_astray := mo_astray_o40) (mo_loops := mo_loops_o41) (mo_steps := mo_steps_o42) (mo_reached := mo_reached_o43) (mo_others := mo_others_o44) (mo_h := mo_h_a184) ((r72).toInt64) (o_mo_h := (f_X6_mix mo_h_a184 ((r72).toInt64))) rfl) (cwV 1 hts gX6_digest_X6_mix rfl rfl rfl (by decide +kernel) ⟨Nat.le_of_ble_eq_true rfl, Nat.le_of_ble_eq_true rfl⟩) (ci := 6) rfl rfl rfl hl.1 rfl (Nat.le_of_ble_eq_true rfl) dX6_digest_197 ⟨Nat.zero_le _, Nat.zero_le _⟩) (fun H locs hP hD hS => ?_)
        refine lv_iinc (v := (x1_a184 + (1 : Int32))) (lv' := [(1, .int (x1_a184 + (1 : Int32))), (0, .ref (ad 15))]) hx hb dX6_digest_200 hl (k := 1) rfl rfl (by decide) rfl (fun ls hl => ?_)
        refine lv_goto (tgt := 184) hx hb dX6_digest_203 (by decide) ?_
        exact ih (f_X6_mix mo_h_a184 ((r72).toInt64)) (x1_a184 + (1 : Int32)) _ hf kk _ _ _ hP hD hS (lv_sub hl [1, 0] rfl)
  obtain ⟨mo_h_o68, h75, hf⟩ := oo_b hf
  try dsimp only at hf
  refine lp69  100 mo_h_o62 (0 : Int32) mo_h_o68 h75 (fun H locs ls hP hD hS hl => ?_) _ _ _ hP hD hS (lv_sub hl [1, 0] rfl)
  refine lv_aload_n hx hb dX6_digest_206 rfl (lv_at hl 0 rfl) ?_
  refine va_get (ci := 6) (v := .long mo_h_o68) (C := RX6) (T := TX6) (N := 34) hx hb hts hin_X6 hown hK hP 0 rfl rfl 33 (by decide) fl_238 (fun _ h9 => h9) rfl dX6_digest_207 ?_
  cases hf
  exact hret _ _ _ _ dX6_digest_210 hP hD hS
