def f_X6_has (x0 : Int32) (x1 : Int32) : Int32 :=
  if ((x0 >>> (x1 &&& 31)) &&& (1 : Int32)) = (1 : Int32) then
    (1 : Int32)
  else
    (0 : Int32)
abbrev rm_X6_has : Room := { frames := 0, cells := 0, slots := 0, locals := 0 }
set_option maxHeartbeats 4000000 in
set_option maxRecDepth 100000 in
theorem c_X6_has (l : Launch) (D : va_G) (cI cJ : ClassId) (ad : Nat → Nat) (sz : Nat)  (x0 : Int32) (x1 : Int32) {o_res : Int32} (hf : f_X6_has x0 x1 = o_res) : CtZ l yX6_has wsX6_has rm_X6_has D cI cJ [.int x0, .int x1] [] sz o_res [] := by
  refine ctZ_of (cc := cX6_has) (maxL := 2) (by decide) rfl (Nat.le_of_ble_eq_true rfl) ?_
  intro p e s m below meth c Q A hx hb hml hown hts hK hN hA hret ls hl hP hD hS
  obtain ⟨args, hargs⟩ : ∃ a : Array Value, a = [.int x0, .int x1].toArray := ⟨_, rfl⟩
  rw [← hargs] at hts hret ⊢
  have hown : s.vm.findClass RX6 = some m.cls := hown
  have hl : lv_has ls 2 [(0, .int x0), (1, .int x1)] := hl
  unfold f_X6_has at hf
  refine lv_iload_n hx hb dX6_has_0 rfl (lv_at hl 0 rfl) ?_
  refine lv_iload_n hx hb dX6_has_1 rfl (lv_at hl 1 rfl) ?_
  refine lv_ishr hx hb dX6_has_2 ?_
  refine lv_iconst (v := (1 : Int32)) hx hb dX6_has_3 (by decide) ?_
  refine lv_iand hx hb dX6_has_4 ?_
  refine lv_iconst (v := (1 : Int32)) hx hb dX6_has_5 (by decide) ?_
  refine lv_icmp_ne (tgt := 13) hx hb dX6_has_6 (by decide) (fun c1 => ?_) (fun c1 => ?_)
  · have hf := oo_f hf c1
    refine lv_iconst (v := (0 : Int32)) hx hb dX6_has_13 (by decide) ?_
    cases hf
    exact hret _ _ _ _ (Or.inl rfl) dX6_has_14 hP hD hS
  · have hf := oo_t hf c1
    refine lv_iconst (v := (1 : Int32)) hx hb dX6_has_9 (by decide) ?_
    refine lv_goto (tgt := 14) hx hb dX6_has_10 (by decide) ?_
    cases hf
    exact hret _ _ _ _ (Or.inr rfl) dX6_has_14 hP hD hS
def f_X6_letter (mo_pageLength : Int32) (mo_page : Nat → Int32) (x1 : Int32) : Option (Int32 × Int32 × (Nat → Int32)) :=
  if (f_X6_within x1 (32 : Int32) (126 : Int32)) = (0 : Int32) then
    some ((-1002 : Int32), mo_pageLength, mo_page)
  else
    if mo_pageLength = (25 : Int32) then
      some ((-1004 : Int32), mo_pageLength, mo_page)
    else
      if mo_pageLength < 0 ∨ 25 ≤ (mo_pageLength).toNatClampNeg then none else
      some ((mo_pageLength + (1 : Int32)), (mo_pageLength + (1 : Int32)), (upd mo_page (mo_pageLength).toNatClampNeg x1))
abbrev rm_X6_letter : Room := { frames := 1, cells := 0, slots := 0, locals := 22 }
set_option maxHeartbeats 4000000 in
set_option maxRecDepth 100000 in
theorem c_X6_letter (l : Launch) (D : va_G) (cI cJ : ClassId) (ad : Nat → Nat) (sz : Nat) {mo_pageLength : Int32} {mo_page : Nat → Int32} {mo_nodes mo_links : Int32} {mo_fromOf mo_toOf : Nat → Int32} {mo_width mo_drawn mo_seed : Int32} {mo_bundleOf : Nat → Int32} {mo_netsRead mo_sent mo_passagesEver mo_astrayEver mo_loopsEver mo_newNodes mo_newPairs mo_due mo_newOne : Int32} {mo_newFrom mo_newTo : Nat → Int32} {mo_marks : Nat → Int64} {mo_drawing : Int64} {mo_leftOf : Nat → Int32} {mo_wayMany : Int32} {mo_wayAt : Nat → Int32} {mo_bitsNow : Int64} {mo_passages mo_astray mo_loops mo_steps mo_reached mo_others : Int32} {mo_h : Int64} (x1 : Int32) {o_res : Int32} {o_mo_pageLength : Int32} {o_mo_page : Nat → Int32} (hf : f_X6_letter mo_pageLength mo_page x1 = some (o_res, o_mo_pageLength, o_mo_page)) : CtI l yX6_letter wsX6_letter rm_X6_letter D cI cJ [.ref (ad 15), .int x1] (wdM cI cJ ad mo_pageLength mo_page mo_nodes mo_links mo_fromOf mo_toOf mo_width mo_drawn mo_seed mo_bundleOf mo_netsRead mo_sent mo_passagesEver mo_astrayEver mo_loopsEver mo_newNodes mo_newPairs mo_due mo_newOne mo_newFrom mo_newTo mo_marks mo_drawing mo_leftOf mo_wayMany mo_wayAt mo_bitsNow mo_passages mo_astray mo_loops mo_steps mo_reached mo_others mo_h) sz o_res (wdM cI cJ ad o_mo_pageLength o_mo_page mo_nodes mo_links mo_fromOf mo_toOf mo_width mo_drawn mo_seed mo_bundleOf mo_netsRead mo_sent mo_passagesEver mo_astrayEver mo_loopsEver mo_newNodes mo_newPairs mo_due mo_newOne mo_newFrom mo_newTo mo_marks mo_drawing mo_leftOf mo_wayMany mo_wayAt mo_bitsNow mo_passages mo_astray mo_loops mo_steps mo_reached mo_others mo_h) := by
  refine ctI_of (cc := cX6_letter) (maxL := 2) (by decide) rfl (Nat.le_of_ble_eq_true rfl) ?_
  intro p e s m below meth c Q A hx hb hml hown hts hK hN hA hret ls hl hP hD hS
  obtain ⟨args, hargs⟩ : ∃ a : Array Value, a = [.ref (ad 15), .int x1].toArray := ⟨_, rfl⟩
  rw [← hargs] at hts hret ⊢
  have hown : s.vm.findClass RX6 = some m.cls := hown
  have hl : lv_has ls 2 [(0, .ref (ad 15)), (1, .int x1)] := hl
  have hin_X6 : ∀ w ∈ wsX60, w ∈ wsX6_letter := fun _ h => List.mem_cons_of_mem _ (List.mem_append_right _ h)
  have fl_7 : (Cond.fieldLink RX6 7 "FoldedWaysModel" "page" "[I").before args s = true := hat hts 2 rfl
  have fl_52 : (Cond.fieldLink RX6 52 "FoldedWaysModel" "pageLength" "I").before args s = true := hat hts 1 rfl
  unfold f_X6_letter at hf
  refine lv_iload_n hx hb dX6_letter_0 rfl (lv_at hl 1 rfl) ?_
  refine lv_bipush (v := (32 : Int32)) hx hb dX6_letter_1 (by decide) ?_
  refine lv_bipush (v := (126 : Int32)) hx hb dX6_letter_3 (by decide) ?_
  have F : Fr D A _ [] [] (wdM cI cJ ad mo_pageLength mo_page mo_nodes mo_links mo_fromOf mo_toOf mo_width mo_drawn mo_seed mo_bundleOf mo_netsRead mo_sent mo_passagesEver mo_astrayEver mo_loopsEver mo_newNodes mo_newPairs mo_due mo_newOne mo_newFrom mo_newTo mo_marks mo_drawing mo_leftOf mo_wayMany mo_wayAt mo_bitsNow mo_passages mo_astray mo_loops mo_steps mo_reached mo_others mo_h) := fr_nil hP hD hS hA
  refine kZ F hS (rS (As := [.int x1, .int (32 : Int32), .int (126 : Int32)]) (rest := []) ⟨hx, hb, hml, hown, hts⟩ hK hN F (c_X6_within l D cI cJ ad _  x1 (32 : Int32) (126 : Int32) (o_res := (f_X6_within x1 (32 : Int32) (126 : Int32))) rfl) (cwS 3 hts gX6_letter_X6_within rfl rfl rfl (by decide +kernel) ⟨Nat.le_of_ble_eq_true rfl, Nat.le_of_ble_eq_true rfl⟩) rfl hl.1 rfl (Nat.le_of_ble_eq_true rfl) dX6_letter_5 ⟨Nat.zero_le _, Nat.zero_le _⟩) (fun H locs hb1 hP hD hS => ?_)
  refine lv_if_ne (tgt := 15) hx hb dX6_letter_8 (by decide) (fun c2 => ?_) (fun c2 => ?_)
  · have hf := oo_f hf c2
    refine lv_aload_n hx hb dX6_letter_15 rfl (lv_at hl 0 rfl) ?_
    refine va_get (ci := 6) (v := .int mo_pageLength) (C := RX6) (T := TX6) (N := 34) hx hb hts hin_X6 hown hK hP 0 rfl rfl 0 (by decide) fl_52 (fun _ h9 => h9) rfl dX6_letter_16 ?_
    refine lv_bipush (v := (25 : Int32)) hx hb dX6_letter_19 (by decide) ?_
    refine lv_icmp_ne (tgt := 28) hx hb dX6_letter_21 (by decide) (fun c3 => ?_) (fun c3 => ?_)
    · have hf := oo_f hf c3
      refine lv_aload_n hx hb dX6_letter_28 rfl (lv_at hl 0 rfl) ?_
      refine va_get (ci := 6) (v := .ref (ad 16)) (C := RX6) (T := TX6) (N := 34) hx hb hts hin_X6 hown hK hP 0 rfl rfl 1 (by decide) fl_7 (fun _ h9 => h9) rfl dX6_letter_29 ?_
      refine lv_aload_n hx hb dX6_letter_32 rfl (lv_at hl 0 rfl) ?_
      refine va_get (ci := 6) (v := .int mo_pageLength) (C := RX6) (T := TX6) (N := 34) hx hb hts hin_X6 hown hK hP 0 rfl rfl 0 (by decide) fl_52 (fun _ h9 => h9) rfl dX6_letter_33 ?_
      refine lv_iload_n hx hb dX6_letter_36 rfl (lv_at hl 1 rfl) ?_
      obtain ⟨g4, hf⟩ := oo_g hf
      refine va_iast hx hb hK hP hD hS 1 0 rfl rfl g4 dX6_letter_37 (fun H locs hP hD hS => ?_)
      have hP : va_P D vwCl (wdM cI cJ ad mo_pageLength (upd mo_page (mo_pageLength).toNatClampNeg x1) mo_nodes mo_links mo_fromOf mo_toOf mo_width mo_drawn mo_seed mo_bundleOf mo_netsRead mo_sent mo_passagesEver mo_astrayEver mo_loopsEver mo_newNodes mo_newPairs mo_due mo_newOne mo_newFrom mo_newTo mo_marks mo_drawing mo_leftOf mo_wayMany mo_wayAt mo_bitsNow mo_passages mo_astray mo_loops mo_steps mo_reached mo_others mo_h) H := hP
      have hD : va_D A (wdM cI cJ ad mo_pageLength (upd mo_page (mo_pageLength).toNatClampNeg x1) mo_nodes mo_links mo_fromOf mo_toOf mo_width mo_drawn mo_seed mo_bundleOf mo_netsRead mo_sent mo_passagesEver mo_astrayEver mo_loopsEver mo_newNodes mo_newPairs mo_due mo_newOne mo_newFrom mo_newTo mo_marks mo_drawing mo_leftOf mo_wayMany mo_wayAt mo_bitsNow mo_passages mo_astray mo_loops mo_steps mo_reached mo_others mo_h) := hD
      refine lv_aload_n hx hb dX6_letter_38 rfl (lv_at hl 0 rfl) ?_
      refine lv_dup hx hb dX6_letter_39 rfl ?_
      refine va_get (ci := 6) (v := .int mo_pageLength) (C := RX6) (T := TX6) (N := 34) hx hb hts hin_X6 hown hK hP 0 rfl rfl 0 (by decide) fl_52 (fun _ h9 => h9) rfl dX6_letter_40 ?_
      refine lv_iconst (v := (1 : Int32)) hx hb dX6_letter_43 (by decide) ?_
      refine lv_iadd hx hb dX6_letter_44 ?_
      refine va_put (ci := 6) (v := .int (mo_pageLength + (1 : Int32))) (ty := .int) (C := RX6) (T := TX6) (N := 34) hx hb hts hin_X6 tyX6 tyX6_ok nmX6 hown hK hP hD hS 0 rfl rfl 0 (by decide) fl_52 (fun _ h9 => h9) rfl (by decide +kernel) rfl rfl (Nat.le_of_ble_eq_true rfl) dX6_letter_45 (fun H locs hP hD hS => ?_)
      have hP : va_P D vwCl (wdM cI cJ ad (mo_pageLength + (1 : Int32)) (upd mo_page (mo_pageLength).toNatClampNeg x1) mo_nodes mo_links mo_fromOf mo_toOf mo_width mo_drawn mo_seed mo_bundleOf mo_netsRead mo_sent mo_passagesEver mo_astrayEver mo_loopsEver mo_newNodes mo_newPairs mo_due mo_newOne mo_newFrom mo_newTo mo_marks mo_drawing mo_leftOf mo_wayMany mo_wayAt mo_bitsNow mo_passages mo_astray mo_loops mo_steps mo_reached mo_others mo_h) H := hP
      have hD : va_D A (wdM cI cJ ad (mo_pageLength + (1 : Int32)) (upd mo_page (mo_pageLength).toNatClampNeg x1) mo_nodes mo_links mo_fromOf mo_toOf mo_width mo_drawn mo_seed mo_bundleOf mo_netsRead mo_sent mo_passagesEver mo_astrayEver mo_loopsEver mo_newNodes mo_newPairs mo_due mo_newOne mo_newFrom mo_newTo mo_marks mo_drawing mo_leftOf mo_wayMany mo_wayAt mo_bitsNow mo_passages mo_astray mo_loops mo_steps mo_reached mo_others mo_h) := hD
      refine lv_aload_n hx hb dX6_letter_48 rfl (lv_at hl 0 rfl) ?_
      refine va_get (ci := 6) (v := .int (mo_pageLength + (1 : Int32))) (C := RX6) (T := TX6) (N := 34) hx hb hts hin_X6 hown hK hP 0 rfl rfl 0 (by decide) fl_52 (fun _ h9 => h9) rfl dX6_letter_49 ?_
      cases hf
      exact hret _ _ _ _ dX6_letter_52 hP hD hS
    · have hf := oo_t hf c3
      refine lv_sipush (v := (-1004 : Int32)) hx hb dX6_letter_24 (by decide) ?_
      cases hf
      exact hret _ _ _ _ dX6_letter_27 hP hD hS
  · have hf := oo_t hf c2
    refine lv_sipush (v := (-1002 : Int32)) hx hb dX6_letter_11 (by decide) ?_
    cases hf
    exact hret _ _ _ _ dX6_letter_14 hP hD hS
def f_X6_blank (mo_pageLength : Int32) : Int32 × Int32 :=
  (mo_pageLength, (0 : Int32))
abbrev rm_X6_blank : Room := { frames := 0, cells := 0, slots := 0, locals := 0 }
set_option maxHeartbeats 4000000 in
set_option maxRecDepth 100000 in
theorem c_X6_blank (l : Launch) (D : va_G) (cI cJ : ClassId) (ad : Nat → Nat) (sz : Nat) {mo_pageLength : Int32} {mo_page : Nat → Int32} {mo_nodes mo_links : Int32} {mo_fromOf mo_toOf : Nat → Int32} {mo_width mo_drawn mo_seed : Int32} {mo_bundleOf : Nat → Int32} {mo_netsRead mo_sent mo_passagesEver mo_astrayEver mo_loopsEver mo_newNodes mo_newPairs mo_due mo_newOne : Int32} {mo_newFrom mo_newTo : Nat → Int32} {mo_marks : Nat → Int64} {mo_drawing : Int64} {mo_leftOf : Nat → Int32} {mo_wayMany : Int32} {mo_wayAt : Nat → Int32} {mo_bitsNow : Int64} {mo_passages mo_astray mo_loops mo_steps mo_reached mo_others : Int32} {mo_h : Int64}  {o_res : Int32} {o_mo_pageLength : Int32} (hf : f_X6_blank mo_pageLength = (o_res, o_mo_pageLength)) : CtI l yX6_blank wsX6_blank rm_X6_blank D cI cJ [.ref (ad 15)] (wdM cI cJ ad mo_pageLength mo_page mo_nodes mo_links mo_fromOf mo_toOf mo_width mo_drawn mo_seed mo_bundleOf mo_netsRead mo_sent mo_passagesEver mo_astrayEver mo_loopsEver mo_newNodes mo_newPairs mo_due mo_newOne mo_newFrom mo_newTo mo_marks mo_drawing mo_leftOf mo_wayMany mo_wayAt mo_bitsNow mo_passages mo_astray mo_loops mo_steps mo_reached mo_others mo_h) sz o_res (wdM cI cJ ad o_mo_pageLength mo_page mo_nodes mo_links mo_fromOf mo_toOf mo_width mo_drawn mo_seed mo_bundleOf mo_netsRead mo_sent mo_passagesEver mo_astrayEver mo_loopsEver mo_newNodes mo_newPairs mo_due mo_newOne mo_newFrom mo_newTo mo_marks mo_drawing mo_leftOf mo_wayMany mo_wayAt mo_bitsNow mo_passages mo_astray mo_loops mo_steps mo_reached mo_others mo_h) := by
  refine ctI_of (cc := cX6_blank) (maxL := 2) (by decide) rfl (Nat.le_of_ble_eq_true rfl) ?_
  intro p e s m below meth c Q A hx hb hml hown hts hK hN hA hret ls hl hP hD hS
  obtain ⟨args, hargs⟩ : ∃ a : Array Value, a = [.ref (ad 15)].toArray := ⟨_, rfl⟩
  rw [← hargs] at hts hret ⊢
  have hown : s.vm.findClass RX6 = some m.cls := hown
  have hl : lv_has ls 2 [(0, .ref (ad 15))] := hl
  have hin_X6 : ∀ w ∈ wsX60, w ∈ wsX6_blank := fun _ h => List.mem_cons_of_mem _ (List.mem_append_right _ h)
  have fl_52 : (Cond.fieldLink RX6 52 "FoldedWaysModel" "pageLength" "I").before args s = true := hat hts 1 rfl
  unfold f_X6_blank at hf
  refine lv_aload_n hx hb dX6_blank_0 rfl (lv_at hl 0 rfl) ?_
  refine va_get (ci := 6) (v := .int mo_pageLength) (C := RX6) (T := TX6) (N := 34) hx hb hts hin_X6 hown hK hP 0 rfl rfl 0 (by decide) fl_52 (fun _ h9 => h9) rfl dX6_blank_1 ?_
  refine lv_istore_n (lv' := [(1, .int mo_pageLength), (0, .ref (ad 15))]) hx hb dX6_blank_4 rfl hl (by decide) rfl (fun ls hl => ?_)
  refine lv_aload_n hx hb dX6_blank_5 rfl (lv_at hl 1 rfl) ?_
  refine lv_iconst (v := (0 : Int32)) hx hb dX6_blank_6 (by decide) ?_
  refine va_put (ci := 6) (v := .int (0 : Int32)) (ty := .int) (C := RX6) (T := TX6) (N := 34) hx hb hts hin_X6 tyX6 tyX6_ok nmX6 hown hK hP hD hS 0 rfl rfl 0 (by decide) fl_52 (fun _ h9 => h9) rfl (by decide +kernel) rfl rfl (Nat.le_of_ble_eq_true rfl) dX6_blank_7 (fun H locs hP hD hS => ?_)
  have hP : va_P D vwCl (wdM cI cJ ad (0 : Int32) mo_page mo_nodes mo_links mo_fromOf mo_toOf mo_width mo_drawn mo_seed mo_bundleOf mo_netsRead mo_sent mo_passagesEver mo_astrayEver mo_loopsEver mo_newNodes mo_newPairs mo_due mo_newOne mo_newFrom mo_newTo mo_marks mo_drawing mo_leftOf mo_wayMany mo_wayAt mo_bitsNow mo_passages mo_astray mo_loops mo_steps mo_reached mo_others mo_h) H := hP
  have hD : va_D A (wdM cI cJ ad (0 : Int32) mo_page mo_nodes mo_links mo_fromOf mo_toOf mo_width mo_drawn mo_seed mo_bundleOf mo_netsRead mo_sent mo_passagesEver mo_astrayEver mo_loopsEver mo_newNodes mo_newPairs mo_due mo_newOne mo_newFrom mo_newTo mo_marks mo_drawing mo_leftOf mo_wayMany mo_wayAt mo_bitsNow mo_passages mo_astray mo_loops mo_steps mo_reached mo_others mo_h) := hD
  refine lv_iload_n hx hb dX6_blank_10 rfl (lv_at hl 0 rfl) ?_
  cases hf
  exact hret _ _ _ _ dX6_blank_11 hP hD hS
def f_X6_isTold_L5 (mo_newPairs : Int32) (mo_newFrom : Nat → Int32) (mo_newTo : Nat → Int32) (x1 : Int32) (x2 : Int32) : Nat → Int32 → Int32 → Option (Int32)
  | 0, _, _ => none
  | n + 1, x3_a5, x4_a5 =>
      if mo_newPairs ≤ x4_a5 then
        some x3_a5
      else
        Option.bind (α := Int32) (if x3_a5 = (0 : Int32) then
            if x4_a5 < 0 ∨ 8 ≤ (x4_a5).toNatClampNeg then none else
            if (mo_newFrom (x4_a5).toNatClampNeg) = x1 then
              if (mo_newTo (x4_a5).toNatClampNeg) = x2 then
                some (1 : Int32)
              else
                if (mo_newFrom (x4_a5).toNatClampNeg) = x2 then
                  if (mo_newTo (x4_a5).toNatClampNeg) = x1 then
                    some (1 : Int32)
                  else
                    some (0 : Int32)
                else
                  some (0 : Int32)
            else
              if (mo_newFrom (x4_a5).toNatClampNeg) = x2 then
                if (mo_newTo (x4_a5).toNatClampNeg) = x1 then
                  some (1 : Int32)
                else
                  some (0 : Int32)
              else
                some (0 : Int32)
          else
            some (1 : Int32)) fun k_4 =>
        f_X6_isTold_L5 mo_newPairs mo_newFrom mo_newTo x1 x2 n k_4 (x4_a5 + (1 : Int32))
theorem f_X6_isTold_L5_s (mo_newPairs : Int32) (mo_newFrom : Nat → Int32) (mo_newTo : Nat → Int32) (x1 : Int32) (x2 : Int32) (n : Nat) (x3_a5 : Int32) (x4_a5 : Int32) : f_X6_isTold_L5 mo_newPairs mo_newFrom mo_newTo x1 x2 (n + 1) x3_a5 x4_a5 =
      (if mo_newPairs ≤ x4_a5 then
        some x3_a5
      else
        Option.bind (α := Int32) (if x3_a5 = (0 : Int32) then
            if x4_a5 < 0 ∨ 8 ≤ (x4_a5).toNatClampNeg then none else
            if (mo_newFrom (x4_a5).toNatClampNeg) = x1 then
              if (mo_newTo (x4_a5).toNatClampNeg) = x2 then
                some (1 : Int32)
              else
                if (mo_newFrom (x4_a5).toNatClampNeg) = x2 then
                  if (mo_newTo (x4_a5).toNatClampNeg) = x1 then
                    some (1 : Int32)
                  else
                    some (0 : Int32)
                else
                  some (0 : Int32)
            else
              if (mo_newFrom (x4_a5).toNatClampNeg) = x2 then
                if (mo_newTo (x4_a5).toNatClampNeg) = x1 then
                  some (1 : Int32)
                else
                  some (0 : Int32)
              else
                some (0 : Int32)
          else
            some (1 : Int32)) fun k_4 =>
        f_X6_isTold_L5 mo_newPairs mo_newFrom mo_newTo x1 x2 n k_4 (x4_a5 + (1 : Int32))) := rfl
def f_X6_isTold (mo_newPairs : Int32) (mo_newFrom : Nat → Int32) (mo_newTo : Nat → Int32) (x1 : Int32) (x2 : Int32) : Option (Int32) :=
  Option.bind (f_X6_isTold_L5 mo_newPairs mo_newFrom mo_newTo x1 x2 100 (0 : Int32) (0 : Int32)) fun x3_o1 =>
  if ¬ (x3_o1 = 0 ∨ x3_o1 = 1) then none else some x3_o1
abbrev rm_X6_isTold : Room := { frames := 0, cells := 0, slots := 0, locals := 0 }
set_option maxHeartbeats 4000000 in
set_option maxRecDepth 100000 in
theorem c_X6_isTold (l : Launch) (D : va_G) (cI cJ : ClassId) (ad : Nat → Nat) (sz : Nat) {mo_pageLength : Int32} {mo_page : Nat → Int32} {mo_nodes mo_links : Int32} {mo_fromOf mo_toOf : Nat → Int32} {mo_width mo_drawn mo_seed : Int32} {mo_bundleOf : Nat → Int32} {mo_netsRead mo_sent mo_passagesEver mo_astrayEver mo_loopsEver mo_newNodes mo_newPairs mo_due mo_newOne : Int32} {mo_newFrom mo_newTo : Nat → Int32} {mo_marks : Nat → Int64} {mo_drawing : Int64} {mo_leftOf : Nat → Int32} {mo_wayMany : Int32} {mo_wayAt : Nat → Int32} {mo_bitsNow : Int64} {mo_passages mo_astray mo_loops mo_steps mo_reached mo_others : Int32} {mo_h : Int64} (x1 : Int32) (x2 : Int32) {o_res : Int32} (hf : f_X6_isTold mo_newPairs mo_newFrom mo_newTo x1 x2 = some o_res) : CtZ l yX6_isTold wsX6_isTold rm_X6_isTold D cI cJ [.ref (ad 15), .int x1, .int x2] (wdM cI cJ ad mo_pageLength mo_page mo_nodes mo_links mo_fromOf mo_toOf mo_width mo_drawn mo_seed mo_bundleOf mo_netsRead mo_sent mo_passagesEver mo_astrayEver mo_loopsEver mo_newNodes mo_newPairs mo_due mo_newOne mo_newFrom mo_newTo mo_marks mo_drawing mo_leftOf mo_wayMany mo_wayAt mo_bitsNow mo_passages mo_astray mo_loops mo_steps mo_reached mo_others mo_h) sz o_res (wdM cI cJ ad mo_pageLength mo_page mo_nodes mo_links mo_fromOf mo_toOf mo_width mo_drawn mo_seed mo_bundleOf mo_netsRead mo_sent mo_passagesEver mo_astrayEver mo_loopsEver mo_newNodes mo_newPairs mo_due mo_newOne mo_newFrom mo_newTo mo_marks mo_drawing mo_leftOf mo_wayMany mo_wayAt mo_bitsNow mo_passages mo_astray mo_loops mo_steps mo_reached mo_others mo_h) := by
  refine ctZ_of (cc := cX6_isTold) (maxL := 5) (by decide) rfl (Nat.le_of_ble_eq_true rfl) ?_
  intro p e s m below meth c Q A hx hb hml hown hts hK hN hA hret ls hl hP hD hS
  obtain ⟨args, hargs⟩ : ∃ a : Array Value, a = [.ref (ad 15), .int x1, .int x2].toArray := ⟨_, rfl⟩
  rw [← hargs] at hts hret ⊢
  have hown : s.vm.findClass RX6 = some m.cls := hown
  have hl : lv_has ls 5 [(0, .ref (ad 15)), (1, .int x1), (2, .int x2)] := hl
  have hin_X6 : ∀ w ∈ wsX60, w ∈ wsX6_isTold := fun _ h => List.mem_cons_of_mem _ (List.mem_append_right _ h)
  have fl_32 : (Cond.fieldLink RX6 32 "FoldedWaysModel" "newFrom" "[I").before args s = true := hat hts 2 rfl
  have fl_35 : (Cond.fieldLink RX6 35 "FoldedWaysModel" "newTo" "[I").before args s = true := hat hts 3 rfl
  have fl_55 : (Cond.fieldLink RX6 55 "FoldedWaysModel" "newPairs" "I").before args s = true := hat hts 1 rfl
  unfold f_X6_isTold at hf
  refine lv_iconst (v := (0 : Int32)) hx hb dX6_isTold_0 (by decide) ?_
  refine lv_istore_n (lv' := [(3, .int (0 : Int32)), (0, .ref (ad 15)), (1, .int x1), (2, .int x2)]) hx hb dX6_isTold_1 rfl hl (by decide) rfl (fun ls hl => ?_)
  refine lv_iconst (v := (0 : Int32)) hx hb dX6_isTold_2 (by decide) ?_
  refine lv_istore (lv' := [(4, .int (0 : Int32)), (3, .int (0 : Int32)), (0, .ref (ad 15)), (1, .int x1), (2, .int x2)]) hx hb dX6_isTold_3 hl (by decide) rfl (fun ls hl => ?_)
  have lp2 : ∀ (n : Nat) (x3_a5 : Int32) (x4_a5 : Int32) (x3_o1 : Int32), f_X6_isTold_L5 mo_newPairs mo_newFrom mo_newTo x1 x2 n x3_a5 x4_a5 = some x3_o1 → (∀ (H : Heap) (locs : List Loc) (ls : Array Slot), va_P D vwCl (wdM cI cJ ad mo_pageLength mo_page mo_nodes mo_links mo_fromOf mo_toOf mo_width mo_drawn mo_seed mo_bundleOf mo_netsRead mo_sent mo_passagesEver mo_astrayEver mo_loopsEver mo_newNodes mo_newPairs mo_due mo_newOne mo_newFrom mo_newTo mo_marks mo_drawing mo_leftOf mo_wayMany mo_wayAt mo_bitsNow mo_passages mo_astray mo_loops mo_steps mo_reached mo_others mo_h) H → va_D A (wdM cI cJ ad mo_pageLength mo_page mo_nodes mo_links mo_fromOf mo_toOf mo_width mo_drawn mo_seed mo_bundleOf mo_netsRead mo_sent mo_passagesEver mo_astrayEver mo_loopsEver mo_newNodes mo_newPairs mo_due mo_newOne mo_newFrom mo_newTo mo_marks mo_drawing mo_leftOf mo_wayMany mo_wayAt mo_bitsNow mo_passages mo_astray mo_loops mo_steps mo_reached mo_others mo_h) → va_S A s.heap H locs → lv_has ls 5 [(3, .int x3_o1)] → W p l e rm_X6_isTold s m args below meth c H locs 0 0 Q (F0 m 74 ls [])) → ∀ (H : Heap) (locs : List Loc) (ls : Array Slot), va_P D vwCl (wdM cI cJ ad mo_pageLength mo_page mo_nodes mo_links mo_fromOf mo_toOf mo_width mo_drawn mo_seed mo_bundleOf mo_netsRead mo_sent mo_passagesEver mo_astrayEver mo_loopsEver mo_newNodes mo_newPairs mo_due mo_newOne mo_newFrom mo_newTo mo_marks mo_drawing mo_leftOf mo_wayMany mo_wayAt mo_bitsNow mo_passages mo_astray mo_loops mo_steps mo_reached mo_others mo_h) H → va_D A (wdM cI cJ ad mo_pageLength mo_page mo_nodes mo_links mo_fromOf mo_toOf mo_width mo_drawn mo_seed mo_bundleOf mo_netsRead mo_sent mo_passagesEver mo_astrayEver mo_loopsEver mo_newNodes mo_newPairs mo_due mo_newOne mo_newFrom mo_newTo mo_marks mo_drawing mo_leftOf mo_wayMany mo_wayAt mo_bitsNow mo_passages mo_astray mo_loops mo_steps mo_reached mo_others mo_h) → va_S A s.heap H locs → lv_has ls 5 [(0, .ref (ad 15)), (1, .int x1), (2, .int x2), (3, .int x3_a5), (4, .int x4_a5)] → W p l e rm_X6_isTold s m args below meth c H locs 0 0 Q (F0 m 5 ls []) := by
    intro n
    induction n with
    | zero =>
      intro x3_a5 x4_a5 x3_o1 h0
      exact oo_n h0
    | succ n ih =>
      intro x3_a5 x4_a5 x3_o1 hf kk H locs ls hP hD hS hl
      rw [f_X6_isTold_L5_s] at hf
      refine lv_iload hx hb dX6_isTold_5 (lv_at hl 4 rfl) ?_
      refine lv_aload_n hx hb dX6_isTold_7 rfl (lv_at hl 0 rfl) ?_
      refine va_get (ci := 6) (v := .int mo_newPairs) (C := RX6) (T := TX6) (N := 34) hx hb hts hin_X6 hown hK hP 0 rfl rfl 16 (by decide) fl_55 (fun _ h9 => h9) rfl dX6_isTold_8 ?_
      refine lv_icmp_ge (tgt := 74) hx hb dX6_isTold_11 (by decide) (fun c3 => ?_) (fun c3 => ?_)
      · have hf := oo_t hf c3
        cases hf
        exact kk _ _ _ hP hD hS (lv_sub hl [3] rfl)
      · have hf := oo_f hf c3
        refine lv_iload_n hx hb dX6_isTold_14 rfl (lv_at hl 3 rfl) ?_
        obtain ⟨k_4, hj6, hf⟩ := oo_b hf
        try dsimp only at hf
        have kj5 : ∀ (H : Heap) (locs : List Loc) (ls : Array Slot), va_P D vwCl (wdM cI cJ ad mo_pageLength mo_page mo_nodes mo_links mo_fromOf mo_toOf mo_width mo_drawn mo_seed mo_bundleOf mo_netsRead mo_sent mo_passagesEver mo_astrayEver mo_loopsEver mo_newNodes mo_newPairs mo_due mo_newOne mo_newFrom mo_newTo mo_marks mo_drawing mo_leftOf mo_wayMany mo_wayAt mo_bitsNow mo_passages mo_astray mo_loops mo_steps mo_reached mo_others mo_h) H → va_D A (wdM cI cJ ad mo_pageLength mo_page mo_nodes mo_links mo_fromOf mo_toOf mo_width mo_drawn mo_seed mo_bundleOf mo_netsRead mo_sent mo_passagesEver mo_astrayEver mo_loopsEver mo_newNodes mo_newPairs mo_due mo_newOne mo_newFrom mo_newTo mo_marks mo_drawing mo_leftOf mo_wayMany mo_wayAt mo_bitsNow mo_passages mo_astray mo_loops mo_steps mo_reached mo_others mo_h) → va_S A s.heap H locs → lv_has ls 5 [(0, .ref (ad 15)), (1, .int x1), (2, .int x2), (4, .int x4_a5)] → W p l e rm_X6_isTold s m args below meth c H locs 0 0 Q (F0 m 67 ls [.int k_4]) := by
          intro H locs ls hP hD hS hl
          refine lv_istore_n (lv' := [(3, .int k_4), (0, .ref (ad 15)), (1, .int x1), (2, .int x2), (4, .int x4_a5)]) hx hb dX6_isTold_67 rfl hl (by decide) rfl (fun ls hl => ?_)
          refine lv_iinc (v := (x4_a5 + (1 : Int32))) (lv' := [(4, .int (x4_a5 + (1 : Int32))), (3, .int k_4), (0, .ref (ad 15)), (1, .int x1), (2, .int x2)]) hx hb dX6_isTold_68 hl (k := 4) rfl rfl (by decide) rfl (fun ls hl => ?_)
          refine lv_goto (tgt := 5) hx hb dX6_isTold_71 (by decide) ?_
          exact ih k_4 (x4_a5 + (1 : Int32)) _ hf kk _ _ _ hP hD hS (lv_sub hl [2, 3, 4, 1, 0] rfl)
        clear hf
        have hf := hj6
        clear hj6
        refine lv_if_ne (tgt := 62) hx hb dX6_isTold_15 (by decide) (fun c7 => ?_) (fun c7 => ?_)
        · have hf := oo_f hf c7
          refine lv_iconst (v := (1 : Int32)) hx hb dX6_isTold_62 (by decide) ?_
          refine lv_goto (tgt := 67) hx hb dX6_isTold_63 (by decide) ?_
          cases hf
          exact kj5 _ _ _ hP hD hS (lv_sub hl [0, 1, 2, 4] rfl)
        · have hf := oo_t hf c7
          refine lv_aload_n hx hb dX6_isTold_18 rfl (lv_at hl 0 rfl) ?_
          refine va_get (ci := 6) (v := .ref (ad 20)) (C := RX6) (T := TX6) (N := 34) hx hb hts hin_X6 hown hK hP 0 rfl rfl 19 (by decide) fl_32 (fun _ h9 => h9) rfl dX6_isTold_19 ?_
          refine lv_iload hx hb dX6_isTold_22 (lv_at hl 4 rfl) ?_
          obtain ⟨g8, hf⟩ := oo_g hf
          refine va_iald hx hb hK hP 5 0 rfl rfl g8 dX6_isTold_24 ?_
          refine lv_iload_n hx hb dX6_isTold_25 rfl (lv_at hl 1 rfl) ?_
          refine lv_icmp_ne (tgt := 40) hx hb dX6_isTold_26 (by decide) (fun c9 => ?_) (fun c9 => ?_)
          · have hf := oo_f hf c9
            refine lv_aload_n hx hb dX6_isTold_40 rfl (lv_at hl 0 rfl) ?_
            refine va_get (ci := 6) (v := .ref (ad 20)) (C := RX6) (T := TX6) (N := 34) hx hb hts hin_X6 hown hK hP 0 rfl rfl 19 (by decide) fl_32 (fun _ h9 => h9) rfl dX6_isTold_41 ?_
            refine lv_iload hx hb dX6_isTold_44 (lv_at hl 4 rfl) ?_
            refine va_iald hx hb hK hP 5 0 rfl rfl g8 dX6_isTold_46 ?_
            refine lv_iload_n hx hb dX6_isTold_47 rfl (lv_at hl 2 rfl) ?_
            refine lv_icmp_ne (tgt := 66) hx hb dX6_isTold_48 (by decide) (fun c11 => ?_) (fun c11 => ?_)
            · have hf := oo_f hf c11
              refine lv_iconst (v := (0 : Int32)) hx hb dX6_isTold_66 (by decide) ?_
              cases hf
              exact kj5 _ _ _ hP hD hS (lv_sub hl [0, 1, 2, 4] rfl)
            · have hf := oo_t hf c11
              refine lv_aload_n hx hb dX6_isTold_51 rfl (lv_at hl 0 rfl) ?_
              refine va_get (ci := 6) (v := .ref (ad 21)) (C := RX6) (T := TX6) (N := 34) hx hb hts hin_X6 hown hK hP 0 rfl rfl 20 (by decide) fl_35 (fun _ h9 => h9) rfl dX6_isTold_52 ?_
              refine lv_iload hx hb dX6_isTold_55 (lv_at hl 4 rfl) ?_
              refine va_iald hx hb hK hP 6 0 rfl rfl g8 dX6_isTold_57 ?_
              refine lv_iload_n hx hb dX6_isTold_58 rfl (lv_at hl 1 rfl) ?_
              refine lv_icmp_ne (tgt := 66) hx hb dX6_isTold_59 (by decide) (fun c13 => ?_) (fun c13 => ?_)
              · have hf := oo_f hf c13
                refine lv_iconst (v := (0 : Int32)) hx hb dX6_isTold_66 (by decide) ?_
                cases hf
                exact kj5 _ _ _ hP hD hS (lv_sub hl [0, 1, 2, 4] rfl)
              · have hf := oo_t hf c13
                refine lv_iconst (v := (1 : Int32)) hx hb dX6_isTold_62 (by decide) ?_
                refine lv_goto (tgt := 67) hx hb dX6_isTold_63 (by decide) ?_
                cases hf
                exact kj5 _ _ _ hP hD hS (lv_sub hl [0, 1, 2, 4] rfl)
          · have hf := oo_t hf c9
            refine lv_aload_n hx hb dX6_isTold_29 rfl (lv_at hl 0 rfl) ?_
            refine va_get (ci := 6) (v := .ref (ad 21)) (C := RX6) (T := TX6) (N := 34) hx hb hts hin_X6 hown hK hP 0 rfl rfl 20 (by decide) fl_35 (fun _ h9 => h9) rfl dX6_isTold_30 ?_
            refine lv_iload hx hb dX6_isTold_33 (lv_at hl 4 rfl) ?_
            refine va_iald hx hb hK hP 6 0 rfl rfl g8 dX6_isTold_35 ?_
            refine lv_iload_n hx hb dX6_isTold_36 rfl (lv_at hl 2 rfl) ?_
            refine lv_icmp_eq (tgt := 62) hx hb dX6_isTold_37 (by decide) (fun c15 => ?_) (fun c15 => ?_)
            · have hf := oo_t hf c15
              refine lv_iconst (v := (1 : Int32)) hx hb dX6_isTold_62 (by decide) ?_
              refine lv_goto (tgt := 67) hx hb dX6_isTold_63 (by decide) ?_
              cases hf
              exact kj5 _ _ _ hP hD hS (lv_sub hl [0, 1, 2, 4] rfl)
            · have hf := oo_f hf c15
              refine lv_aload_n hx hb dX6_isTold_40 rfl (lv_at hl 0 rfl) ?_
              refine va_get (ci := 6) (v := .ref (ad 20)) (C := RX6) (T := TX6) (N := 34) hx hb hts hin_X6 hown hK hP 0 rfl rfl 19 (by decide) fl_32 (fun _ h9 => h9) rfl dX6_isTold_41 ?_
              refine lv_iload hx hb dX6_isTold_44 (lv_at hl 4 rfl) ?_
              refine va_iald hx hb hK hP 5 0 rfl rfl g8 dX6_isTold_46 ?_
              refine lv_iload_n hx hb dX6_isTold_47 rfl (lv_at hl 2 rfl) ?_
              refine lv_icmp_ne (tgt := 66) hx hb dX6_isTold_48 (by decide) (fun c17 => ?_) (fun c17 => ?_)
              · have hf := oo_f hf c17
                refine lv_iconst (v := (0 : Int32)) hx hb dX6_isTold_66 (by decide) ?_
                cases hf
                exact kj5 _ _ _ hP hD hS (lv_sub hl [0, 1, 2, 4] rfl)
              · have hf := oo_t hf c17
                refine lv_aload_n hx hb dX6_isTold_51 rfl (lv_at hl 0 rfl) ?_
                refine va_get (ci := 6) (v := .ref (ad 21)) (C := RX6) (T := TX6) (N := 34) hx hb hts hin_X6 hown hK hP 0 rfl rfl 20 (by decide) fl_35 (fun _ h9 => h9) rfl dX6_isTold_52 ?_
                refine lv_iload hx hb dX6_isTold_55 (lv_at hl 4 rfl) ?_
                refine va_iald hx hb hK hP 6 0 rfl rfl g8 dX6_isTold_57 ?_
                refine lv_iload_n hx hb dX6_isTold_58 rfl (lv_at hl 1 rfl) ?_
                refine lv_icmp_ne (tgt := 66) hx hb dX6_isTold_59 (by decide) (fun c19 => ?_) (fun c19 => ?_)
                · have hf := oo_f hf c19
                  refine lv_iconst (v := (0 : Int32)) hx hb dX6_isTold_66 (by decide) ?_
                  cases hf
                  exact kj5 _ _ _ hP hD hS (lv_sub hl [0, 1, 2, 4] rfl)
                · have hf := oo_t hf c19
                  refine lv_iconst (v := (1 : Int32)) hx hb dX6_isTold_62 (by decide) ?_
                  refine lv_goto (tgt := 67) hx hb dX6_isTold_63 (by decide) ?_
                  cases hf
                  exact kj5 _ _ _ hP hD hS (lv_sub hl [0, 1, 2, 4] rfl)
  obtain ⟨x3_o1, h20, hf⟩ := oo_b hf
  try dsimp only at hf
  refine lp2  100 (0 : Int32) (0 : Int32) x3_o1 h20 (fun H locs ls hP hD hS hl => ?_) _ _ _ hP hD hS (lv_sub hl [2, 3, 4, 1, 0] rfl)
  refine lv_iload_n hx hb dX6_isTold_74 rfl (lv_at hl 0 rfl) ?_
  obtain ⟨hz21, hf⟩ := oo_g hf
  replace hz21 := Decidable.not_not.mp hz21
  cases hf
  exact hret _ _ _ _ hz21 dX6_isTold_75 hP hD hS
def f_X6_takesNode (mo_newNodes : Int32) (mo_newPairs : Int32) (mo_due : Int32) (mo_newOne : Int32) (mo_newFrom : Nat → Int32) (mo_newTo : Nat → Int32) (x1 : Int32) : Option (Int32 × Int32 × Int32 × Int32 × (Nat → Int32) × (Nat → Int32)) :=
  if mo_due = (1 : Int32) then
    some ((f_X6_within x1 (0 : Int32) (mo_newNodes - (1 : Int32))), mo_newPairs, (2 : Int32), x1, mo_newFrom, mo_newTo)
  else
    Option.bind (α := Int32) (if (f_X6_within x1 (0 : Int32) (mo_newNodes - (1 : Int32))) = (0 : Int32) then
        some (0 : Int32)
      else
        if x1 = mo_newOne then
          some (0 : Int32)
        else
          Option.bind (f_X6_isTold mo_newPairs mo_newFrom mo_newTo mo_newOne x1) fun r14 =>
          if r14 = (0 : Int32) then
            some (1 : Int32)
          else
            some (0 : Int32)) fun k_3 =>
    if k_3 = (0 : Int32) then
      if ¬ (k_3 = 0 ∨ k_3 = 1) then none else some (k_3, mo_newPairs, mo_due, mo_newOne, mo_newFrom, mo_newTo)
    else
      if mo_newPairs < 0 ∨ 8 ≤ (mo_newPairs).toNatClampNeg then none else
      if ¬ (k_3 = 0 ∨ k_3 = 1) then none else some (k_3, (mo_newPairs + (1 : Int32)), (0 : Int32), mo_newOne, (upd mo_newFrom (mo_newPairs).toNatClampNeg mo_newOne), (upd mo_newTo (mo_newPairs).toNatClampNeg x1))
abbrev rm_X6_takesNode : Room := { frames := 1, cells := 0, slots := 0, locals := 24 }
set_option maxHeartbeats 4000000 in
set_option maxRecDepth 100000 in
theorem c_X6_takesNode (l : Launch) (D : va_G) (cI cJ : ClassId) (ad : Nat → Nat) (sz : Nat) {mo_pageLength : Int32} {mo_page : Nat → Int32} {mo_nodes mo_links : Int32} {mo_fromOf mo_toOf : Nat → Int32} {mo_width mo_drawn mo_seed : Int32} {mo_bundleOf : Nat → Int32} {mo_netsRead mo_sent mo_passagesEver mo_astrayEver mo_loopsEver mo_newNodes mo_newPairs mo_due mo_newOne : Int32} {mo_newFrom mo_newTo : Nat → Int32} {mo_marks : Nat → Int64} {mo_drawing : Int64} {mo_leftOf : Nat → Int32} {mo_wayMany : Int32} {mo_wayAt : Nat → Int32} {mo_bitsNow : Int64} {mo_passages mo_astray mo_loops mo_steps mo_reached mo_others : Int32} {mo_h : Int64} (x1 : Int32) {o_res : Int32} {o_mo_newPairs : Int32} {o_mo_due : Int32} {o_mo_newOne : Int32} {o_mo_newFrom : Nat → Int32} {o_mo_newTo : Nat → Int32} (hf : f_X6_takesNode mo_newNodes mo_newPairs mo_due mo_newOne mo_newFrom mo_newTo x1 = some (o_res, o_mo_newPairs, o_mo_due, o_mo_newOne, o_mo_newFrom, o_mo_newTo)) : CtZ l yX6_takesNode wsX6_takesNode rm_X6_takesNode D cI cJ [.ref (ad 15), .int x1] (wdM cI cJ ad mo_pageLength mo_page mo_nodes mo_links mo_fromOf mo_toOf mo_width mo_drawn mo_seed mo_bundleOf mo_netsRead mo_sent mo_passagesEver mo_astrayEver mo_loopsEver mo_newNodes mo_newPairs mo_due mo_newOne mo_newFrom mo_newTo mo_marks mo_drawing mo_leftOf mo_wayMany mo_wayAt mo_bitsNow mo_passages mo_astray mo_loops mo_steps mo_reached mo_others mo_h) sz o_res (wdM cI cJ ad mo_pageLength mo_page mo_nodes mo_links mo_fromOf mo_toOf mo_width mo_drawn mo_seed mo_bundleOf mo_netsRead mo_sent mo_passagesEver mo_astrayEver mo_loopsEver mo_newNodes o_mo_newPairs o_mo_due o_mo_newOne o_mo_newFrom o_mo_newTo mo_marks mo_drawing mo_leftOf mo_wayMany mo_wayAt mo_bitsNow mo_passages mo_astray mo_loops mo_steps mo_reached mo_others mo_h) := by
  refine ctZ_of (cc := cX6_takesNode) (maxL := 3) (by decide) rfl (Nat.le_of_ble_eq_true rfl) ?_
  intro p e s m below meth c Q A hx hb hml hown hts hK hN hA hret ls hl hP hD hS
  obtain ⟨args, hargs⟩ : ∃ a : Array Value, a = [.ref (ad 15), .int x1].toArray := ⟨_, rfl⟩
  rw [← hargs] at hts hret ⊢
  have hown : s.vm.findClass RX6 = some m.cls := hown
  have hl : lv_has ls 3 [(0, .ref (ad 15)), (1, .int x1)] := hl
  have hin_X6 : ∀ w ∈ wsX60, w ∈ wsX6_takesNode := fun _ h => List.mem_cons_of_mem _ (List.mem_append_right _ h)
  have fl_32 : (Cond.fieldLink RX6 32 "FoldedWaysModel" "newFrom" "[I").before args s = true := hat hts 4 rfl
  have fl_35 : (Cond.fieldLink RX6 35 "FoldedWaysModel" "newTo" "[I").before args s = true := hat hts 6 rfl
  have fl_55 : (Cond.fieldLink RX6 55 "FoldedWaysModel" "newPairs" "I").before args s = true := hat hts 5 rfl
  have fl_58 : (Cond.fieldLink RX6 58 "FoldedWaysModel" "newNodes" "I").before args s = true := hat hts 1 rfl
  have fl_61 : (Cond.fieldLink RX6 61 "FoldedWaysModel" "due" "I").before args s = true := hat hts 2 rfl
  have fl_64 : (Cond.fieldLink RX6 64 "FoldedWaysModel" "newOne" "I").before args s = true := hat hts 3 rfl
  unfold f_X6_takesNode at hf
  refine lv_iload_n hx hb dX6_takesNode_0 rfl (lv_at hl 1 rfl) ?_
  refine lv_iconst (v := (0 : Int32)) hx hb dX6_takesNode_1 (by decide) ?_
  refine lv_aload_n hx hb dX6_takesNode_2 rfl (lv_at hl 0 rfl) ?_
  refine va_get (ci := 6) (v := .int mo_newNodes) (C := RX6) (T := TX6) (N := 34) hx hb hts hin_X6 hown hK hP 0 rfl rfl 15 (by decide) fl_58 (fun _ h9 => h9) rfl dX6_takesNode_3 ?_
  refine lv_iconst (v := (1 : Int32)) hx hb dX6_takesNode_6 (by decide) ?_
  refine lv_isub hx hb dX6_takesNode_7 ?_
  have F : Fr D A _ [] [] (wdM cI cJ ad mo_pageLength mo_page mo_nodes mo_links mo_fromOf mo_toOf mo_width mo_drawn mo_seed mo_bundleOf mo_netsRead mo_sent mo_passagesEver mo_astrayEver mo_loopsEver mo_newNodes mo_newPairs mo_due mo_newOne mo_newFrom mo_newTo mo_marks mo_drawing mo_leftOf mo_wayMany mo_wayAt mo_bitsNow mo_passages mo_astray mo_loops mo_steps mo_reached mo_others mo_h) := fr_nil hP hD hS hA
  refine kZ F hS (rS (As := [.int x1, .int (0 : Int32), .int (mo_newNodes - (1 : Int32))]) (rest := []) ⟨hx, hb, hml, hown, hts⟩ hK hN F (c_X6_within l D cI cJ ad _  x1 (0 : Int32) (mo_newNodes - (1 : Int32)) (o_res := (f_X6_within x1 (0 : Int32) (mo_newNodes - (1 : Int32)))) rfl) (cwS 3 hts gX6_takesNode_X6_within rfl rfl rfl (by decide +kernel) ⟨Nat.le_of_ble_eq_true rfl, Nat.le_of_ble_eq_true rfl⟩) rfl hl.1 rfl (Nat.le_of_ble_eq_true rfl) dX6_takesNode_8 ⟨Nat.zero_le _, Nat.zero_le _⟩) (fun H locs hb1 hP hD hS => ?_)
  refine lv_istore_n (lv' := [(2, .int (f_X6_within x1 (0 : Int32) (mo_newNodes - (1 : Int32)))), (0, .ref (ad 15)), (1, .int x1)]) hx hb dX6_takesNode_11 rfl hl (by decide) rfl (fun ls hl => ?_)
  refine lv_aload_n hx hb dX6_takesNode_12 rfl (lv_at hl 1 rfl) ?_
  refine va_get (ci := 6) (v := .int mo_due) (C := RX6) (T := TX6) (N := 34) hx hb hts hin_X6 hown hK hP 0 rfl rfl 17 (by decide) fl_61 (fun _ h9 => h9) rfl dX6_takesNode_13 ?_
  refine lv_iconst (v := (1 : Int32)) hx hb dX6_takesNode_16 (by decide) ?_
  refine lv_icmp_ne (tgt := 32) hx hb dX6_takesNode_17 (by decide) (fun c2 => ?_) (fun c2 => ?_)
  · have hf := oo_f hf c2
    refine lv_iload_n hx hb dX6_takesNode_32 rfl (lv_at hl 0 rfl) ?_
    obtain ⟨k_3, hj5, hf⟩ := oo_b hf
    try dsimp only at hf
    have kj4 : ∀ (H : Heap) (locs : List Loc) (ls : Array Slot), va_P D vwCl (wdM cI cJ ad mo_pageLength mo_page mo_nodes mo_links mo_fromOf mo_toOf mo_width mo_drawn mo_seed mo_bundleOf mo_netsRead mo_sent mo_passagesEver mo_astrayEver mo_loopsEver mo_newNodes mo_newPairs mo_due mo_newOne mo_newFrom mo_newTo mo_marks mo_drawing mo_leftOf mo_wayMany mo_wayAt mo_bitsNow mo_passages mo_astray mo_loops mo_steps mo_reached mo_others mo_h) H → va_D A (wdM cI cJ ad mo_pageLength mo_page mo_nodes mo_links mo_fromOf mo_toOf mo_width mo_drawn mo_seed mo_bundleOf mo_netsRead mo_sent mo_passagesEver mo_astrayEver mo_loopsEver mo_newNodes mo_newPairs mo_due mo_newOne mo_newFrom mo_newTo mo_marks mo_drawing mo_leftOf mo_wayMany mo_wayAt mo_bitsNow mo_passages mo_astray mo_loops mo_steps mo_reached mo_others mo_h) → va_S A s.heap H locs → lv_has ls 3 [(0, .ref (ad 15)), (1, .int x1)] → W p l e rm_X6_takesNode s m args below meth c H locs 0 0 Q (F0 m 61 ls [.int k_3]) := by
      intro H locs ls hP hD hS hl
      refine lv_istore_n (lv' := [(2, .int k_3), (0, .ref (ad 15)), (1, .int x1)]) hx hb dX6_takesNode_61 rfl hl (by decide) rfl (fun ls hl => ?_)
      refine lv_iload_n hx hb dX6_takesNode_62 rfl (lv_at hl 0 rfl) ?_
      refine lv_if_eq (tgt := 104) hx hb dX6_takesNode_63 (by decide) (fun c6 => ?_) (fun c6 => ?_)
      · have hf := oo_t hf c6
        refine lv_iload_n hx hb dX6_takesNode_104 rfl (lv_at hl 0 rfl) ?_
        obtain ⟨hz7, hf⟩ := oo_g hf
        replace hz7 := Decidable.not_not.mp hz7
        cases hf
        exact hret _ _ _ _ hz7 dX6_takesNode_105 hP hD hS
      · have hf := oo_f hf c6
        refine lv_aload_n hx hb dX6_takesNode_66 rfl (lv_at hl 1 rfl) ?_
        refine va_get (ci := 6) (v := .ref (ad 20)) (C := RX6) (T := TX6) (N := 34) hx hb hts hin_X6 hown hK hP 0 rfl rfl 19 (by decide) fl_32 (fun _ h9 => h9) rfl dX6_takesNode_67 ?_
        refine lv_aload_n hx hb dX6_takesNode_70 rfl (lv_at hl 1 rfl) ?_
        refine va_get (ci := 6) (v := .int mo_newPairs) (C := RX6) (T := TX6) (N := 34) hx hb hts hin_X6 hown hK hP 0 rfl rfl 16 (by decide) fl_55 (fun _ h9 => h9) rfl dX6_takesNode_71 ?_
        refine lv_aload_n hx hb dX6_takesNode_74 rfl (lv_at hl 1 rfl) ?_
        refine va_get (ci := 6) (v := .int mo_newOne) (C := RX6) (T := TX6) (N := 34) hx hb hts hin_X6 hown hK hP 0 rfl rfl 18 (by decide) fl_64 (fun _ h9 => h9) rfl dX6_takesNode_75 ?_
        obtain ⟨g8, hf⟩ := oo_g hf
        refine va_iast hx hb hK hP hD hS 5 0 rfl rfl g8 dX6_takesNode_78 (fun H locs hP hD hS => ?_)
        have hP : va_P D vwCl (wdM cI cJ ad mo_pageLength mo_page mo_nodes mo_links mo_fromOf mo_toOf mo_width mo_drawn mo_seed mo_bundleOf mo_netsRead mo_sent mo_passagesEver mo_astrayEver mo_loopsEver mo_newNodes mo_newPairs mo_due mo_newOne (upd mo_newFrom (mo_newPairs).toNatClampNeg mo_newOne) mo_newTo mo_marks mo_drawing mo_leftOf mo_wayMany mo_wayAt mo_bitsNow mo_passages mo_astray mo_loops mo_steps mo_reached mo_others mo_h) H := hP
        have hD : va_D A (wdM cI cJ ad mo_pageLength mo_page mo_nodes mo_links mo_fromOf mo_toOf mo_width mo_drawn mo_seed mo_bundleOf mo_netsRead mo_sent mo_passagesEver mo_astrayEver mo_loopsEver mo_newNodes mo_newPairs mo_due mo_newOne (upd mo_newFrom (mo_newPairs).toNatClampNeg mo_newOne) mo_newTo mo_marks mo_drawing mo_leftOf mo_wayMany mo_wayAt mo_bitsNow mo_passages mo_astray mo_loops mo_steps mo_reached mo_others mo_h) := hD
        refine lv_aload_n hx hb dX6_takesNode_79 rfl (lv_at hl 1 rfl) ?_
        refine va_get (ci := 6) (v := .ref (ad 21)) (C := RX6) (T := TX6) (N := 34) hx hb hts hin_X6 hown hK hP 0 rfl rfl 20 (by decide) fl_35 (fun _ h9 => h9) rfl dX6_takesNode_80 ?_
        refine lv_aload_n hx hb dX6_takesNode_83 rfl (lv_at hl 1 rfl) ?_
        refine va_get (ci := 6) (v := .int mo_newPairs) (C := RX6) (T := TX6) (N := 34) hx hb hts hin_X6 hown hK hP 0 rfl rfl 16 (by decide) fl_55 (fun _ h9 => h9) rfl dX6_takesNode_84 ?_
        refine lv_iload_n hx hb dX6_takesNode_87 rfl (lv_at hl 2 rfl) ?_
        refine va_iast hx hb hK hP hD hS 6 0 rfl rfl g8 dX6_takesNode_88 (fun H locs hP hD hS => ?_)
        have hP : va_P D vwCl (wdM cI cJ ad mo_pageLength mo_page mo_nodes mo_links mo_fromOf mo_toOf mo_width mo_drawn mo_seed mo_bundleOf mo_netsRead mo_sent mo_passagesEver mo_astrayEver mo_loopsEver mo_newNodes mo_newPairs mo_due mo_newOne (upd mo_newFrom (mo_newPairs).toNatClampNeg mo_newOne) (upd mo_newTo (mo_newPairs).toNatClampNeg x1) mo_marks mo_drawing mo_leftOf mo_wayMany mo_wayAt mo_bitsNow mo_passages mo_astray mo_loops mo_steps mo_reached mo_others mo_h) H := hP
        have hD : va_D A (wdM cI cJ ad mo_pageLength mo_page mo_nodes mo_links mo_fromOf mo_toOf mo_width mo_drawn mo_seed mo_bundleOf mo_netsRead mo_sent mo_passagesEver mo_astrayEver mo_loopsEver mo_newNodes mo_newPairs mo_due mo_newOne (upd mo_newFrom (mo_newPairs).toNatClampNeg mo_newOne) (upd mo_newTo (mo_newPairs).toNatClampNeg x1) mo_marks mo_drawing mo_leftOf mo_wayMany mo_wayAt mo_bitsNow mo_passages mo_astray mo_loops mo_steps mo_reached mo_others mo_h) := hD
        refine lv_aload_n hx hb dX6_takesNode_89 rfl (lv_at hl 1 rfl) ?_
        refine lv_dup hx hb dX6_takesNode_90 rfl ?_
        refine va_get (ci := 6) (v := .int mo_newPairs) (C := RX6) (T := TX6) (N := 34) hx hb hts hin_X6 hown hK hP 0 rfl rfl 16 (by decide) fl_55 (fun _ h9 => h9) rfl dX6_takesNode_91 ?_
        refine lv_iconst (v := (1 : Int32)) hx hb dX6_takesNode_94 (by decide) ?_
        refine lv_iadd hx hb dX6_takesNode_95 ?_
        refine va_put (ci := 6) (v := .int (mo_newPairs + (1 : Int32))) (ty := .int) (C := RX6) (T := TX6) (N := 34) hx hb hts hin_X6 tyX6 tyX6_ok nmX6 hown hK hP hD hS 0 rfl rfl 16 (by decide) fl_55 (fun _ h9 => h9) rfl (by decide +kernel) rfl rfl (Nat.le_of_ble_eq_true rfl) dX6_takesNode_96 (fun H locs hP hD hS => ?_)
        have hP : va_P D vwCl (wdM cI cJ ad mo_pageLength mo_page mo_nodes mo_links mo_fromOf mo_toOf mo_width mo_drawn mo_seed mo_bundleOf mo_netsRead mo_sent mo_passagesEver mo_astrayEver mo_loopsEver mo_newNodes (mo_newPairs + (1 : Int32)) mo_due mo_newOne (upd mo_newFrom (mo_newPairs).toNatClampNeg mo_newOne) (upd mo_newTo (mo_newPairs).toNatClampNeg x1) mo_marks mo_drawing mo_leftOf mo_wayMany mo_wayAt mo_bitsNow mo_passages mo_astray mo_loops mo_steps mo_reached mo_others mo_h) H := hP
        have hD : va_D A (wdM cI cJ ad mo_pageLength mo_page mo_nodes mo_links mo_fromOf mo_toOf mo_width mo_drawn mo_seed mo_bundleOf mo_netsRead mo_sent mo_passagesEver mo_astrayEver mo_loopsEver mo_newNodes (mo_newPairs + (1 : Int32)) mo_due mo_newOne (upd mo_newFrom (mo_newPairs).toNatClampNeg mo_newOne) (upd mo_newTo (mo_newPairs).toNatClampNeg x1) mo_marks mo_drawing mo_leftOf mo_wayMany mo_wayAt mo_bitsNow mo_passages mo_astray mo_loops mo_steps mo_reached mo_others mo_h) := hD
        refine lv_aload_n hx hb dX6_takesNode_99 rfl (lv_at hl 1 rfl) ?_
        refine lv_iconst (v := (0 : Int32)) hx hb dX6_takesNode_100 (by decide) ?_
        refine va_put (ci := 6) (v := .int (0 : Int32)) (ty := .int) (C := RX6) (T := TX6) (N := 34) hx hb hts hin_X6 tyX6 tyX6_ok nmX6 hown hK hP hD hS 0 rfl rfl 17 (by decide) fl_61 (fun _ h9 => h9) rfl (by decide +kernel) rfl rfl (Nat.le_of_ble_eq_true rfl) dX6_takesNode_101 (fun H locs hP hD hS => ?_)
        have hP : va_P D vwCl (wdM cI cJ ad mo_pageLength mo_page mo_nodes mo_links mo_fromOf mo_toOf mo_width mo_drawn mo_seed mo_bundleOf mo_netsRead mo_sent mo_passagesEver mo_astrayEver mo_loopsEver mo_newNodes (mo_newPairs + (1 : Int32)) (0 : Int32) mo_newOne (upd mo_newFrom (mo_newPairs).toNatClampNeg mo_newOne) (upd mo_newTo (mo_newPairs).toNatClampNeg x1) mo_marks mo_drawing mo_leftOf mo_wayMany mo_wayAt mo_bitsNow mo_passages mo_astray mo_loops mo_steps mo_reached mo_others mo_h) H := hP
        have hD : va_D A (wdM cI cJ ad mo_pageLength mo_page mo_nodes mo_links mo_fromOf mo_toOf mo_width mo_drawn mo_seed mo_bundleOf mo_netsRead mo_sent mo_passagesEver mo_astrayEver mo_loopsEver mo_newNodes (mo_newPairs + (1 : Int32)) (0 : Int32) mo_newOne (upd mo_newFrom (mo_newPairs).toNatClampNeg mo_newOne) (upd mo_newTo (mo_newPairs).toNatClampNeg x1) mo_marks mo_drawing mo_leftOf mo_wayMany mo_wayAt mo_bitsNow mo_passages mo_astray mo_loops mo_steps mo_reached mo_others mo_h) := hD
        refine lv_iload_n hx hb dX6_takesNode_104 rfl (lv_at hl 0 rfl) ?_
        obtain ⟨hz10, hf⟩ := oo_g hf
        replace hz10 := Decidable.not_not.mp hz10
        cases hf
        exact hret _ _ _ _ hz10 dX6_takesNode_105 hP hD hS
    clear hf
    have hf := hj5
    clear hj5
    refine lv_if_eq (tgt := 60) hx hb dX6_takesNode_33 (by decide) (fun c11 => ?_) (fun c11 => ?_)
    · have hf := oo_t hf c11
      refine lv_iconst (v := (0 : Int32)) hx hb dX6_takesNode_60 (by decide) ?_
      cases hf
      exact kj4 _ _ _ hP hD hS (lv_sub hl [1, 2] rfl)
    · have hf := oo_f hf c11
      refine lv_iload_n hx hb dX6_takesNode_36 rfl (lv_at hl 2 rfl) ?_
      refine lv_aload_n hx hb dX6_takesNode_37 rfl (lv_at hl 1 rfl) ?_
      refine va_get (ci := 6) (v := .int mo_newOne) (C := RX6) (T := TX6) (N := 34) hx hb hts hin_X6 hown hK hP 0 rfl rfl 18 (by decide) fl_64 (fun _ h9 => h9) rfl dX6_takesNode_38 ?_
      refine lv_icmp_eq (tgt := 60) hx hb dX6_takesNode_41 (by decide) (fun c12 => ?_) (fun c12 => ?_)
      · have hf := oo_t hf c12
        refine lv_iconst (v := (0 : Int32)) hx hb dX6_takesNode_60 (by decide) ?_
        cases hf
        exact kj4 _ _ _ hP hD hS (lv_sub hl [1, 2] rfl)
      · have hf := oo_f hf c12
        refine lv_aload_n hx hb dX6_takesNode_44 rfl (lv_at hl 1 rfl) ?_
        refine lv_aload_n hx hb dX6_takesNode_45 rfl (lv_at hl 1 rfl) ?_
        refine va_get (ci := 6) (v := .int mo_newOne) (C := RX6) (T := TX6) (N := 34) hx hb hts hin_X6 hown hK hP 0 rfl rfl 18 (by decide) fl_64 (fun _ h9 => h9) rfl dX6_takesNode_46 ?_
        refine lv_iload_n hx hb dX6_takesNode_49 rfl (lv_at hl 2 rfl) ?_
        obtain ⟨r14, h13, hf⟩ := oo_b hf
        try dsimp only at hf
        have F : Fr D A _ (wdM cI cJ ad mo_pageLength mo_page mo_nodes mo_links mo_fromOf mo_toOf mo_width mo_drawn mo_seed mo_bundleOf mo_netsRead mo_sent mo_passagesEver mo_astrayEver mo_loopsEver mo_newNodes mo_newPairs mo_due mo_newOne mo_newFrom mo_newTo mo_marks mo_drawing mo_leftOf mo_wayMany mo_wayAt mo_bitsNow mo_passages mo_astray mo_loops mo_steps mo_reached mo_others mo_h) (wdM cI cJ ad mo_pageLength mo_page mo_nodes mo_links mo_fromOf mo_toOf mo_width mo_drawn mo_seed mo_bundleOf mo_netsRead mo_sent mo_passagesEver mo_astrayEver mo_loopsEver mo_newNodes mo_newPairs mo_due mo_newOne mo_newFrom mo_newTo mo_marks mo_drawing mo_leftOf mo_wayMany mo_wayAt mo_bitsNow mo_passages mo_astray mo_loops mo_steps mo_reached mo_others mo_h) (wdM cI cJ ad mo_pageLength mo_page mo_nodes mo_links mo_fromOf mo_toOf mo_width mo_drawn mo_seed mo_bundleOf mo_netsRead mo_sent mo_passagesEver mo_astrayEver mo_loopsEver mo_newNodes mo_newPairs mo_due mo_newOne mo_newFrom mo_newTo mo_marks mo_drawing mo_leftOf mo_wayMany mo_wayAt mo_bitsNow mo_passages mo_astray mo_loops mo_steps mo_reached mo_others mo_h) := fr_self hP hD hS hA
        refine kZ F hS (rV (q := (RX6, TX6, 34)) (As := [.int mo_newOne, .int x1]) (rest := []) ⟨hx, hb, hml, hown, hts⟩ hK hN F (c_X6_isTold l D cI cJ ad _ (mo_pageLength := mo_pageLength) (mo_page := mo_page) (mo_nodes := mo_nodes) (mo_links := mo_links) (mo_fromOf := mo_fromOf) (mo_toOf := mo_toOf) (mo_width := mo_width) (mo_drawn := mo_drawn) (mo_seed := mo_seed) (mo_bundleOf := mo_bundleOf) (mo_netsRead := mo_netsRead) (mo_sent := mo_sent) (mo_passagesEver := mo_passagesEver) (mo_astrayEver := mo_astrayEver) (mo_loopsEver := mo_loopsEver) (mo_newNodes := mo_newNodes) (mo_newPairs := mo_newPairs) (mo_due := mo_due) (mo_newOne := mo_newOne) (mo_newFrom := mo_newFrom) (mo_newTo := mo_newTo) (mo_marks := mo_marks) (mo_drawing := mo_drawing) (mo_leftOf := mo_leftOf) (mo_wayMany := mo_wayMany) (mo_wayAt := mo_wayAt) (mo_bitsNow := mo_bitsNow) (mo_passages := mo_passages) (mo_astray := mo_astray) (mo_loops := mo_loops) (mo_steps := mo_steps) (mo_reached := mo_reached) (mo_others := mo_others) (mo_h := mo_h) mo_newOne x1 (o_res := r14) h13) (cwV 2 hts gX6_takesNode_X6_isTold rfl rfl rfl (by decide +kernel) ⟨Nat.le_of_ble_eq_true rfl, Nat.le_of_ble_eq_true rfl⟩) (ci := 6) rfl rfl rfl hl.1 rfl (Nat.le_of_ble_eq_true rfl) dX6_takesNode_50 ⟨Nat.zero_le _, Nat.zero_le _⟩) (fun H locs hb15 hP hD hS => ?_)
        refine lv_if_ne (tgt := 60) hx hb dX6_takesNode_53 (by decide) (fun c16 => ?_) (fun c16 => ?_)
        · have hf := oo_f hf c16
          refine lv_iconst (v := (0 : Int32)) hx hb dX6_takesNode_60 (by decide) ?_
          cases hf
          exact kj4 _ _ _ hP hD hS (lv_sub hl [1, 2] rfl)
        · have hf := oo_t hf c16
          refine lv_iconst (v := (1 : Int32)) hx hb dX6_takesNode_56 (by decide) ?_
          refine lv_goto (tgt := 61) hx hb dX6_takesNode_57 (by decide) ?_
          cases hf
          exact kj4 _ _ _ hP hD hS (lv_sub hl [1, 2] rfl)
  · have hf := oo_t hf c2
    refine lv_aload_n hx hb dX6_takesNode_20 rfl (lv_at hl 1 rfl) ?_
    refine lv_iload_n hx hb dX6_takesNode_21 rfl (lv_at hl 2 rfl) ?_
    refine va_put (ci := 6) (v := .int x1) (ty := .int) (C := RX6) (T := TX6) (N := 34) hx hb hts hin_X6 tyX6 tyX6_ok nmX6 hown hK hP hD hS 0 rfl rfl 18 (by decide) fl_64 (fun _ h9 => h9) rfl (by decide +kernel) rfl rfl (Nat.le_of_ble_eq_true rfl) dX6_takesNode_22 (fun H locs hP hD hS => ?_)
    have hP : va_P D vwCl (wdM cI cJ ad mo_pageLength mo_page mo_nodes mo_links mo_fromOf mo_toOf mo_width mo_drawn mo_seed mo_bundleOf mo_netsRead mo_sent mo_passagesEver mo_astrayEver mo_loopsEver mo_newNodes mo_newPairs mo_due x1 mo_newFrom mo_newTo mo_marks mo_drawing mo_leftOf mo_wayMany mo_wayAt mo_bitsNow mo_passages mo_astray mo_loops mo_steps mo_reached mo_others mo_h) H := hP
    have hD : va_D A (wdM cI cJ ad mo_pageLength mo_page mo_nodes mo_links mo_fromOf mo_toOf mo_width mo_drawn mo_seed mo_bundleOf mo_netsRead mo_sent mo_passagesEver mo_astrayEver mo_loopsEver mo_newNodes mo_newPairs mo_due x1 mo_newFrom mo_newTo mo_marks mo_drawing mo_leftOf mo_wayMany mo_wayAt mo_bitsNow mo_passages mo_astray mo_loops mo_steps mo_reached mo_others mo_h) := hD
    refine lv_aload_n hx hb dX6_takesNode_25 rfl (lv_at hl 1 rfl) ?_
    refine lv_iconst (v := (2 : Int32)) hx hb dX6_takesNode_26 (by decide) ?_
    refine va_put (ci := 6) (v := .int (2 : Int32)) (ty := .int) (C := RX6) (T := TX6) (N := 34) hx hb hts hin_X6 tyX6 tyX6_ok nmX6 hown hK hP hD hS 0 rfl rfl 17 (by decide) fl_61 (fun _ h9 => h9) rfl (by decide +kernel) rfl rfl (Nat.le_of_ble_eq_true rfl) dX6_takesNode_27 (fun H locs hP hD hS => ?_)
    have hP : va_P D vwCl (wdM cI cJ ad mo_pageLength mo_page mo_nodes mo_links mo_fromOf mo_toOf mo_width mo_drawn mo_seed mo_bundleOf mo_netsRead mo_sent mo_passagesEver mo_astrayEver mo_loopsEver mo_newNodes mo_newPairs (2 : Int32) x1 mo_newFrom mo_newTo mo_marks mo_drawing mo_leftOf mo_wayMany mo_wayAt mo_bitsNow mo_passages mo_astray mo_loops mo_steps mo_reached mo_others mo_h) H := hP
    have hD : va_D A (wdM cI cJ ad mo_pageLength mo_page mo_nodes mo_links mo_fromOf mo_toOf mo_width mo_drawn mo_seed mo_bundleOf mo_netsRead mo_sent mo_passagesEver mo_astrayEver mo_loopsEver mo_newNodes mo_newPairs (2 : Int32) x1 mo_newFrom mo_newTo mo_marks mo_drawing mo_leftOf mo_wayMany mo_wayAt mo_bitsNow mo_passages mo_astray mo_loops mo_steps mo_reached mo_others mo_h) := hD
    refine lv_iload_n hx hb dX6_takesNode_30 rfl (lv_at hl 0 rfl) ?_
    cases hf
    exact hret _ _ _ _ hb1 dX6_takesNode_31 hP hD hS
def f_X6_takes (mo_newNodes : Int32) (mo_newPairs : Int32) (mo_due : Int32) (mo_newOne : Int32) (mo_newFrom : Nat → Int32) (mo_newTo : Nat → Int32) (x1 : Int32) : Option (Int32 × Int32 × Int32 × Int32 × Int32 × (Nat → Int32) × (Nat → Int32)) :=
  if mo_newNodes = (0 : Int32) then
    if (if (f_X6_within x1 (50 : Int32) (54 : Int32)) = (0 : Int32) then (0 : Int32) else (x1 - (48 : Int32))) ≤ (0 : Int32) then
      some ((0 : Int32), (if (f_X6_within x1 (50 : Int32) (54 : Int32)) = (0 : Int32) then (0 : Int32) else (x1 - (48 : Int32))), mo_newPairs, mo_due, mo_newOne, mo_newFrom, mo_newTo)
    else
      some ((1 : Int32), (if (f_X6_within x1 (50 : Int32) (54 : Int32)) = (0 : Int32) then (0 : Int32) else (x1 - (48 : Int32))), mo_newPairs, mo_due, mo_newOne, mo_newFrom, mo_newTo)
  else
    if mo_due = (0 : Int32) then
      Option.bind (α := Int32) (if (if x1 = (44 : Int32) then (if (8 : Int32) ≤ mo_newPairs then (0 : Int32) else (1 : Int32)) else (0 : Int32)) = (0 : Int32) then
          some (0 : Int32)
        else
          some (1 : Int32)) fun k_13 =>
      if ¬ ((if x1 = (44 : Int32) then (if (8 : Int32) ≤ mo_newPairs then (0 : Int32) else (1 : Int32)) else (0 : Int32)) = 0 ∨ (if x1 = (44 : Int32) then (if (8 : Int32) ≤ mo_newPairs then (0 : Int32) else (1 : Int32)) else (0 : Int32)) = 1) then none else some ((if x1 = (44 : Int32) then (if (8 : Int32) ≤ mo_newPairs then (0 : Int32) else (1 : Int32)) else (0 : Int32)), mo_newNodes, mo_newPairs, k_13, mo_newOne, mo_newFrom, mo_newTo)
    else
      Option.bind (f_X6_takesNode mo_newNodes mo_newPairs mo_due mo_newOne mo_newFrom mo_newTo (x1 - (48 : Int32))) fun (r4, mo_newPairs_5, mo_due_6, mo_newOne_7, mo_newFrom_8, mo_newTo_9) =>
      some (r4, mo_newNodes, mo_newPairs_5, mo_due_6, mo_newOne_7, mo_newFrom_8, mo_newTo_9)
abbrev rm_X6_takes : Room := { frames := 2, cells := 0, slots := 0, locals := 46 }
set_option maxHeartbeats 4000000 in
set_option maxRecDepth 100000 in
theorem c_X6_takes (l : Launch) (D : va_G) (cI cJ : ClassId) (ad : Nat → Nat) (sz : Nat) {mo_pageLength : Int32} {mo_page : Nat → Int32} {mo_nodes mo_links : Int32} {mo_fromOf mo_toOf : Nat → Int32} {mo_width mo_drawn mo_seed : Int32} {mo_bundleOf : Nat → Int32} {mo_netsRead mo_sent mo_passagesEver mo_astrayEver mo_loopsEver mo_newNodes mo_newPairs mo_due mo_newOne : Int32} {mo_newFrom mo_newTo : Nat → Int32} {mo_marks : Nat → Int64} {mo_drawing : Int64} {mo_leftOf : Nat → Int32} {mo_wayMany : Int32} {mo_wayAt : Nat → Int32} {mo_bitsNow : Int64} {mo_passages mo_astray mo_loops mo_steps mo_reached mo_others : Int32} {mo_h : Int64} (x1 : Int32) {o_res : Int32} {o_mo_newNodes : Int32} {o_mo_newPairs : Int32} {o_mo_due : Int32} {o_mo_newOne : Int32} {o_mo_newFrom : Nat → Int32} {o_mo_newTo : Nat → Int32} (hf : f_X6_takes mo_newNodes mo_newPairs mo_due mo_newOne mo_newFrom mo_newTo x1 = some (o_res, o_mo_newNodes, o_mo_newPairs, o_mo_due, o_mo_newOne, o_mo_newFrom, o_mo_newTo)) : CtZ l yX6_takes wsX6_takes rm_X6_takes D cI cJ [.ref (ad 15), .int x1] (wdM cI cJ ad mo_pageLength mo_page mo_nodes mo_links mo_fromOf mo_toOf mo_width mo_drawn mo_seed mo_bundleOf mo_netsRead mo_sent mo_passagesEver mo_astrayEver mo_loopsEver mo_newNodes mo_newPairs mo_due mo_newOne mo_newFrom mo_newTo mo_marks mo_drawing mo_leftOf mo_wayMany mo_wayAt mo_bitsNow mo_passages mo_astray mo_loops mo_steps mo_reached mo_others mo_h) sz o_res (wdM cI cJ ad mo_pageLength mo_page mo_nodes mo_links mo_fromOf mo_toOf mo_width mo_drawn mo_seed mo_bundleOf mo_netsRead mo_sent mo_passagesEver mo_astrayEver mo_loopsEver o_mo_newNodes o_mo_newPairs o_mo_due o_mo_newOne o_mo_newFrom o_mo_newTo mo_marks mo_drawing mo_leftOf mo_wayMany mo_wayAt mo_bitsNow mo_passages mo_astray mo_loops mo_steps mo_reached mo_others mo_h) := by
  refine ctZ_of (cc := cX6_takes) (maxL := 3) (by decide) rfl (Nat.le_of_ble_eq_true rfl) ?_
  intro p e s m below meth c Q A hx hb hml hown hts hK hN hA hret ls hl hP hD hS
  obtain ⟨args, hargs⟩ : ∃ a : Array Value, a = [.ref (ad 15), .int x1].toArray := ⟨_, rfl⟩
  rw [← hargs] at hts hret ⊢
  have hown : s.vm.findClass RX6 = some m.cls := hown
  have hl : lv_has ls 3 [(0, .ref (ad 15)), (1, .int x1)] := hl
  have hin_X6 : ∀ w ∈ wsX60, w ∈ wsX6_takes := fun _ h => List.mem_cons_of_mem _ (List.mem_append_right _ h)
  have fl_55 : (Cond.fieldLink RX6 55 "FoldedWaysModel" "newPairs" "I").before args s = true := hat hts 3 rfl
  have fl_58 : (Cond.fieldLink RX6 58 "FoldedWaysModel" "newNodes" "I").before args s = true := hat hts 1 rfl
  have fl_61 : (Cond.fieldLink RX6 61 "FoldedWaysModel" "due" "I").before args s = true := hat hts 2 rfl
  unfold f_X6_takes at hf
  refine lv_aload_n hx hb dX6_takes_0 rfl (lv_at hl 0 rfl) ?_
  refine va_get (ci := 6) (v := .int mo_newNodes) (C := RX6) (T := TX6) (N := 34) hx hb hts hin_X6 hown hK hP 0 rfl rfl 15 (by decide) fl_58 (fun _ h9 => h9) rfl dX6_takes_1 ?_
  refine lv_if_ne (tgt := 43) hx hb dX6_takes_4 (by decide) (fun c1 => ?_) (fun c1 => ?_)
  · have hf := oo_f hf c1
    refine lv_aload_n hx hb dX6_takes_43 rfl (lv_at hl 0 rfl) ?_
    refine va_get (ci := 6) (v := .int mo_due) (C := RX6) (T := TX6) (N := 34) hx hb hts hin_X6 hown hK hP 0 rfl rfl 17 (by decide) fl_61 (fun _ h9 => h9) rfl dX6_takes_44 ?_
    refine lv_if_ne (tgt := 86) hx hb dX6_takes_47 (by decide) (fun c2 => ?_) (fun c2 => ?_)
    · have hf := oo_f hf c2
      refine lv_aload_n hx hb dX6_takes_86 rfl (lv_at hl 0 rfl) ?_
      refine lv_iload_n hx hb dX6_takes_87 rfl (lv_at hl 1 rfl) ?_
      refine lv_bipush (v := (48 : Int32)) hx hb dX6_takes_88 (by decide) ?_
      refine lv_isub hx hb dX6_takes_90 ?_
      obtain ⟨⟨r4, mo_newPairs_5, mo_due_6, mo_newOne_7, mo_newFrom_8, mo_newTo_9⟩, h3, hf⟩ := oo_b hf
      try dsimp only at hf
      have F : Fr D A _ (wdM cI cJ ad mo_pageLength mo_page mo_nodes mo_links mo_fromOf mo_toOf mo_width mo_drawn mo_seed mo_bundleOf mo_netsRead mo_sent mo_passagesEver mo_astrayEver mo_loopsEver mo_newNodes mo_newPairs mo_due mo_newOne mo_newFrom mo_newTo mo_marks mo_drawing mo_leftOf mo_wayMany mo_wayAt mo_bitsNow mo_passages mo_astray mo_loops mo_steps mo_reached mo_others mo_h) (wdM cI cJ ad mo_pageLength mo_page mo_nodes mo_links mo_fromOf mo_toOf mo_width mo_drawn mo_seed mo_bundleOf mo_netsRead mo_sent mo_passagesEver mo_astrayEver mo_loopsEver mo_newNodes mo_newPairs_5 mo_due_6 mo_newOne_7 mo_newFrom_8 mo_newTo_9 mo_marks mo_drawing mo_leftOf mo_wayMany mo_wayAt mo_bitsNow mo_passages mo_astray mo_loops mo_steps mo_reached mo_others mo_h) (wdM cI cJ ad mo_pageLength mo_page mo_nodes mo_links mo_fromOf mo_toOf mo_width mo_drawn mo_seed mo_bundleOf mo_netsRead mo_sent mo_passagesEver mo_astrayEver mo_loopsEver mo_newNodes mo_newPairs_5 mo_due_6 mo_newOne_7 mo_newFrom_8 mo_newTo_9 mo_marks mo_drawing mo_leftOf mo_wayMany mo_wayAt mo_bitsNow mo_passages mo_astray mo_loops mo_steps mo_reached mo_others mo_h) := fr_self hP hD hS hA
      refine kZ F hS (rV (q := (RX6, TX6, 34)) (As := [.int (x1 - (48 : Int32))]) (rest := []) ⟨hx, hb, hml, hown, hts⟩ hK hN F (c_X6_takesNode l D cI cJ ad _ (mo_pageLength := mo_pageLength) (mo_page := mo_page) (mo_nodes := mo_nodes) (mo_links := mo_links) (mo_fromOf := mo_fromOf) (mo_toOf := mo_toOf) (mo_width := mo_width) (mo_drawn := mo_drawn) (mo_seed := mo_seed) (mo_bundleOf := mo_bundleOf) (mo_netsRead := mo_netsRead) (mo_sent := mo_sent) (mo_passagesEver := mo_passagesEver) (mo_astrayEver := mo_astrayEver) (mo_loopsEver := mo_loopsEver) (mo_newNodes := mo_newNodes) (mo_newPairs := mo_newPairs) (mo_due := mo_due) (mo_newOne := mo_newOne) (mo_newFrom := mo_newFrom) (mo_newTo := mo_newTo) (mo_marks := mo_marks) (mo_drawing := mo_drawing) (mo_leftOf := mo_leftOf) (mo_wayMany := mo_wayMany) (mo_wayAt := mo_wayAt) (mo_bitsNow := mo_bitsNow) (mo_passages := mo_passages) (mo_astray := mo_astray) (mo_loops := mo_loops) (mo_steps := mo_steps) (mo_reached := mo_reached) (mo_others := mo_others) (mo_h := mo_h) (x1 - (48 : Int32)) (o_res := r4) (o_mo_newPairs := mo_newPairs_5) (o_mo_due := mo_due_6) (o_mo_newOne := mo_newOne_7) (o_mo_newFrom := mo_newFrom_8) (o_mo_newTo := mo_newTo_9) h3) (cwV 1 hts gX6_takes_X6_takesNode rfl rfl rfl (by decide +kernel) ⟨Nat.le_of_ble_eq_true rfl, Nat.le_of_ble_eq_true rfl⟩) (ci := 6) rfl rfl rfl hl.1 rfl (Nat.le_of_ble_eq_true rfl) dX6_takes_91 ⟨Nat.zero_le _, Nat.zero_le _⟩) (fun H locs hb10 hP hD hS => ?_)
      cases hf
      exact hret _ _ _ _ hb10 dX6_takes_94 hP hD hS
    · have hf := oo_t hf c2
      refine lv_iload_n hx hb dX6_takes_50 rfl (lv_at hl 1 rfl) ?_
      refine lv_bipush (v := (44 : Int32)) hx hb dX6_takes_51 (by decide) ?_
      have kj12 : ∀ (k_11 : Int32), k_11 = (if x1 = (44 : Int32) then (if (8 : Int32) ≤ mo_newPairs then (0 : Int32) else (1 : Int32)) else (0 : Int32)) → ∀ (H : Heap) (locs : List Loc) (ls : Array Slot), va_P D vwCl (wdM cI cJ ad mo_pageLength mo_page mo_nodes mo_links mo_fromOf mo_toOf mo_width mo_drawn mo_seed mo_bundleOf mo_netsRead mo_sent mo_passagesEver mo_astrayEver mo_loopsEver mo_newNodes mo_newPairs mo_due mo_newOne mo_newFrom mo_newTo mo_marks mo_drawing mo_leftOf mo_wayMany mo_wayAt mo_bitsNow mo_passages mo_astray mo_loops mo_steps mo_reached mo_others mo_h) H → va_D A (wdM cI cJ ad mo_pageLength mo_page mo_nodes mo_links mo_fromOf mo_toOf mo_width mo_drawn mo_seed mo_bundleOf mo_netsRead mo_sent mo_passagesEver mo_astrayEver mo_loopsEver mo_newNodes mo_newPairs mo_due mo_newOne mo_newFrom mo_newTo mo_marks mo_drawing mo_leftOf mo_wayMany mo_wayAt mo_bitsNow mo_passages mo_astray mo_loops mo_steps mo_reached mo_others mo_h) → va_S A s.heap H locs → lv_has ls 3 [(0, .ref (ad 15))] → W p l e rm_X6_takes s m args below meth c H locs 0 0 Q (F0 m 70 ls [.int k_11]) := by
        intro k_11 ek_11
        subst ek_11
        intro H locs ls hP hD hS hl
        refine lv_istore_n (lv' := [(2, .int (if x1 = (44 : Int32) then (if (8 : Int32) ≤ mo_newPairs then (0 : Int32) else (1 : Int32)) else (0 : Int32))), (0, .ref (ad 15))]) hx hb dX6_takes_70 rfl hl (by decide) rfl (fun ls hl => ?_)
        refine lv_aload_n hx hb dX6_takes_71 rfl (lv_at hl 1 rfl) ?_
        refine lv_iload_n hx hb dX6_takes_72 rfl (lv_at hl 0 rfl) ?_
        obtain ⟨k_13, hj15, hf⟩ := oo_b hf
        try dsimp only at hf
        have kj14 : ∀ (H : Heap) (locs : List Loc) (ls : Array Slot), va_P D vwCl (wdM cI cJ ad mo_pageLength mo_page mo_nodes mo_links mo_fromOf mo_toOf mo_width mo_drawn mo_seed mo_bundleOf mo_netsRead mo_sent mo_passagesEver mo_astrayEver mo_loopsEver mo_newNodes mo_newPairs mo_due mo_newOne mo_newFrom mo_newTo mo_marks mo_drawing mo_leftOf mo_wayMany mo_wayAt mo_bitsNow mo_passages mo_astray mo_loops mo_steps mo_reached mo_others mo_h) H → va_D A (wdM cI cJ ad mo_pageLength mo_page mo_nodes mo_links mo_fromOf mo_toOf mo_width mo_drawn mo_seed mo_bundleOf mo_netsRead mo_sent mo_passagesEver mo_astrayEver mo_loopsEver mo_newNodes mo_newPairs mo_due mo_newOne mo_newFrom mo_newTo mo_marks mo_drawing mo_leftOf mo_wayMany mo_wayAt mo_bitsNow mo_passages mo_astray mo_loops mo_steps mo_reached mo_others mo_h) → va_S A s.heap H locs → lv_has ls 3 [(2, .int (if x1 = (44 : Int32) then (if (8 : Int32) ≤ mo_newPairs then (0 : Int32) else (1 : Int32)) else (0 : Int32)))] → W p l e rm_X6_takes s m args below meth c H locs 0 0 Q (F0 m 81 ls [.int k_13, .ref (ad 15)]) := by
          intro H locs ls hP hD hS hl
          refine va_put (ci := 6) (v := .int k_13) (ty := .int) (C := RX6) (T := TX6) (N := 34) hx hb hts hin_X6 tyX6 tyX6_ok nmX6 hown hK hP hD hS 0 rfl rfl 17 (by decide) fl_61 (fun _ h9 => h9) rfl (by decide +kernel) rfl rfl (Nat.le_of_ble_eq_true rfl) dX6_takes_81 (fun H locs hP hD hS => ?_)
          have hP : va_P D vwCl (wdM cI cJ ad mo_pageLength mo_page mo_nodes mo_links mo_fromOf mo_toOf mo_width mo_drawn mo_seed mo_bundleOf mo_netsRead mo_sent mo_passagesEver mo_astrayEver mo_loopsEver mo_newNodes mo_newPairs k_13 mo_newOne mo_newFrom mo_newTo mo_marks mo_drawing mo_leftOf mo_wayMany mo_wayAt mo_bitsNow mo_passages mo_astray mo_loops mo_steps mo_reached mo_others mo_h) H := hP
          have hD : va_D A (wdM cI cJ ad mo_pageLength mo_page mo_nodes mo_links mo_fromOf mo_toOf mo_width mo_drawn mo_seed mo_bundleOf mo_netsRead mo_sent mo_passagesEver mo_astrayEver mo_loopsEver mo_newNodes mo_newPairs k_13 mo_newOne mo_newFrom mo_newTo mo_marks mo_drawing mo_leftOf mo_wayMany mo_wayAt mo_bitsNow mo_passages mo_astray mo_loops mo_steps mo_reached mo_others mo_h) := hD
          refine lv_iload_n hx hb dX6_takes_84 rfl (lv_at hl 0 rfl) ?_
          obtain ⟨hz16, hf⟩ := oo_g hf
          replace hz16 := Decidable.not_not.mp hz16
          cases hf
          exact hret _ _ _ _ hz16 dX6_takes_85 hP hD hS
        clear hf
        have hf := hj15
        clear hj15
        refine lv_if_eq (tgt := 80) hx hb dX6_takes_73 (by decide) (fun c17 => ?_) (fun c17 => ?_)
        · have hf := oo_t hf c17
          refine lv_iconst (v := (0 : Int32)) hx hb dX6_takes_80 (by decide) ?_
          cases hf
          exact kj14 _ _ _ hP hD hS (lv_sub hl [0] rfl)
        · have hf := oo_f hf c17
          refine lv_iconst (v := (1 : Int32)) hx hb dX6_takes_76 (by decide) ?_
          refine lv_goto (tgt := 81) hx hb dX6_takes_77 (by decide) ?_
          cases hf
          exact kj14 _ _ _ hP hD hS (lv_sub hl [0] rfl)
      refine lv_icmp_ne (tgt := 69) hx hb dX6_takes_53 (by decide) (fun c18 => ?_) (fun c18 => ?_)
      · refine lv_iconst (v := (0 : Int32)) hx hb dX6_takes_69 (by decide) ?_
        exact kj12 (0 : Int32) (if_neg c18).symm _ _ _ hP hD hS (lv_sub hl [0] rfl)
      · refine lv_aload_n hx hb dX6_takes_56 rfl (lv_at hl 0 rfl) ?_
        refine va_get (ci := 6) (v := .int mo_newPairs) (C := RX6) (T := TX6) (N := 34) hx hb hts hin_X6 hown hK hP 0 rfl rfl 16 (by decide) fl_55 (fun _ h9 => h9) rfl dX6_takes_57 ?_
        refine lv_bipush (v := (8 : Int32)) hx hb dX6_takes_60 (by decide) ?_
        refine lv_icmp_ge (tgt := 69) hx hb dX6_takes_62 (by decide) (fun c19 => ?_) (fun c19 => ?_)
        · refine lv_iconst (v := (0 : Int32)) hx hb dX6_takes_69 (by decide) ?_
          exact kj12 (0 : Int32) ((if_pos c18).trans (if_pos c19)).symm _ _ _ hP hD hS (lv_sub hl [0] rfl)
        · refine lv_iconst (v := (1 : Int32)) hx hb dX6_takes_65 (by decide) ?_
          refine lv_goto (tgt := 70) hx hb dX6_takes_66 (by decide) ?_
          exact kj12 (1 : Int32) ((if_pos c18).trans (if_neg c19)).symm _ _ _ hP hD hS (lv_sub hl [0] rfl)
  · have hf := oo_t hf c1
    refine lv_aload_n hx hb dX6_takes_7 rfl (lv_at hl 0 rfl) ?_
    refine lv_iload_n hx hb dX6_takes_8 rfl (lv_at hl 1 rfl) ?_
    refine lv_bipush (v := (50 : Int32)) hx hb dX6_takes_9 (by decide) ?_
    refine lv_bipush (v := (54 : Int32)) hx hb dX6_takes_11 (by decide) ?_
    have F : Fr D A _ [] [] (wdM cI cJ ad mo_pageLength mo_page mo_nodes mo_links mo_fromOf mo_toOf mo_width mo_drawn mo_seed mo_bundleOf mo_netsRead mo_sent mo_passagesEver mo_astrayEver mo_loopsEver mo_newNodes mo_newPairs mo_due mo_newOne mo_newFrom mo_newTo mo_marks mo_drawing mo_leftOf mo_wayMany mo_wayAt mo_bitsNow mo_passages mo_astray mo_loops mo_steps mo_reached mo_others mo_h) := fr_nil hP hD hS hA
    refine kZ F hS (rS (As := [.int x1, .int (50 : Int32), .int (54 : Int32)]) (rest := [.ref (ad 15)]) ⟨hx, hb, hml, hown, hts⟩ hK hN F (c_X6_within l D cI cJ ad _  x1 (50 : Int32) (54 : Int32) (o_res := (f_X6_within x1 (50 : Int32) (54 : Int32))) rfl) (cwS 3 hts gX6_takes_X6_within rfl rfl rfl (by decide +kernel) ⟨Nat.le_of_ble_eq_true rfl, Nat.le_of_ble_eq_true rfl⟩) rfl hl.1 rfl (Nat.le_of_ble_eq_true rfl) dX6_takes_13 ⟨Nat.zero_le _, Nat.zero_le _⟩) (fun H locs hb20 hP hD hS => ?_)
    have kj22 : ∀ (k_21 : Int32), k_21 = (if (f_X6_within x1 (50 : Int32) (54 : Int32)) = (0 : Int32) then (0 : Int32) else (x1 - (48 : Int32))) → ∀ (H : Heap) (locs : List Loc) (ls : Array Slot), va_P D vwCl (wdM cI cJ ad mo_pageLength mo_page mo_nodes mo_links mo_fromOf mo_toOf mo_width mo_drawn mo_seed mo_bundleOf mo_netsRead mo_sent mo_passagesEver mo_astrayEver mo_loopsEver mo_newNodes mo_newPairs mo_due mo_newOne mo_newFrom mo_newTo mo_marks mo_drawing mo_leftOf mo_wayMany mo_wayAt mo_bitsNow mo_passages mo_astray mo_loops mo_steps mo_reached mo_others mo_h) H → va_D A (wdM cI cJ ad mo_pageLength mo_page mo_nodes mo_links mo_fromOf mo_toOf mo_width mo_drawn mo_seed mo_bundleOf mo_netsRead mo_sent mo_passagesEver mo_astrayEver mo_loopsEver mo_newNodes mo_newPairs mo_due mo_newOne mo_newFrom mo_newTo mo_marks mo_drawing mo_leftOf mo_wayMany mo_wayAt mo_bitsNow mo_passages mo_astray mo_loops mo_steps mo_reached mo_others mo_h) → va_S A s.heap H locs → lv_has ls 3 [(0, .ref (ad 15))] → W p l e rm_X6_takes s m args below meth c H locs 0 0 Q (F0 m 27 ls [.int k_21, .ref (ad 15)]) := by
      intro k_21 ek_21
      subst ek_21
      intro H locs ls hP hD hS hl
      refine va_put (ci := 6) (v := .int (if (f_X6_within x1 (50 : Int32) (54 : Int32)) = (0 : Int32) then (0 : Int32) else (x1 - (48 : Int32)))) (ty := .int) (C := RX6) (T := TX6) (N := 34) hx hb hts hin_X6 tyX6 tyX6_ok nmX6 hown hK hP hD hS 0 rfl rfl 15 (by decide) fl_58 (fun _ h9 => h9) rfl (by decide +kernel) rfl rfl (Nat.le_of_ble_eq_true rfl) dX6_takes_27 (fun H locs hP hD hS => ?_)
      have hP : va_P D vwCl (wdM cI cJ ad mo_pageLength mo_page mo_nodes mo_links mo_fromOf mo_toOf mo_width mo_drawn mo_seed mo_bundleOf mo_netsRead mo_sent mo_passagesEver mo_astrayEver mo_loopsEver (if (f_X6_within x1 (50 : Int32) (54 : Int32)) = (0 : Int32) then (0 : Int32) else (x1 - (48 : Int32))) mo_newPairs mo_due mo_newOne mo_newFrom mo_newTo mo_marks mo_drawing mo_leftOf mo_wayMany mo_wayAt mo_bitsNow mo_passages mo_astray mo_loops mo_steps mo_reached mo_others mo_h) H := hP
      have hD : va_D A (wdM cI cJ ad mo_pageLength mo_page mo_nodes mo_links mo_fromOf mo_toOf mo_width mo_drawn mo_seed mo_bundleOf mo_netsRead mo_sent mo_passagesEver mo_astrayEver mo_loopsEver (if (f_X6_within x1 (50 : Int32) (54 : Int32)) = (0 : Int32) then (0 : Int32) else (x1 - (48 : Int32))) mo_newPairs mo_due mo_newOne mo_newFrom mo_newTo mo_marks mo_drawing mo_leftOf mo_wayMany mo_wayAt mo_bitsNow mo_passages mo_astray mo_loops mo_steps mo_reached mo_others mo_h) := hD
      refine lv_aload_n hx hb dX6_takes_30 rfl (lv_at hl 0 rfl) ?_
      refine va_get (ci := 6) (v := .int (if (f_X6_within x1 (50 : Int32) (54 : Int32)) = (0 : Int32) then (0 : Int32) else (x1 - (48 : Int32)))) (C := RX6) (T := TX6) (N := 34) hx hb hts hin_X6 hown hK hP 0 rfl rfl 15 (by decide) fl_58 (fun _ h9 => h9) rfl dX6_takes_31 ?_
      refine lv_if_le (tgt := 41) hx hb dX6_takes_34 (by decide) (fun c23 => ?_) (fun c23 => ?_)
      · have hf := oo_t hf c23
        refine lv_iconst (v := (0 : Int32)) hx hb dX6_takes_41 (by decide) ?_
        cases hf
        exact hret _ _ _ _ (Or.inl rfl) dX6_takes_42 hP hD hS
      · have hf := oo_f hf c23
        refine lv_iconst (v := (1 : Int32)) hx hb dX6_takes_37 (by decide) ?_
        refine lv_goto (tgt := 42) hx hb dX6_takes_38 (by decide) ?_
        cases hf
        exact hret _ _ _ _ (Or.inr rfl) dX6_takes_42 hP hD hS
    refine lv_if_eq (tgt := 26) hx hb dX6_takes_16 (by decide) (fun c24 => ?_) (fun c24 => ?_)
    · refine lv_iconst (v := (0 : Int32)) hx hb dX6_takes_26 (by decide) ?_
      exact kj22 (0 : Int32) (if_pos c24).symm _ _ _ hP hD hS (lv_sub hl [0] rfl)
    · refine lv_iload_n hx hb dX6_takes_19 rfl (lv_at hl 1 rfl) ?_
      refine lv_bipush (v := (48 : Int32)) hx hb dX6_takes_20 (by decide) ?_
      refine lv_isub hx hb dX6_takes_22 ?_
      refine lv_goto (tgt := 27) hx hb dX6_takes_23 (by decide) ?_
      exact kj22 (x1 - (48 : Int32)) (if_neg c24).symm _ _ _ hP hD hS (lv_sub hl [0] rfl)
def f_X6_goAlong_L17 (mo_pageLength : Int32) (mo_page : Nat → Int32) : Nat → Int32 → Int32 → Int32 → Int32 → (Nat → Int32) → (Nat → Int32) → Int32 → Option (Int32 × Int32 × Int32 × Int32 × (Nat → Int32) × (Nat → Int32) × Int32)
  | 0, _, _, _, _, _, _, _ => none
  | n + 1, mo_newNodes_a17, mo_newPairs_a17, mo_due_a17, mo_newOne_a17, mo_newFrom_a17, mo_newTo_a17, x1_a17 =>
      if mo_pageLength ≤ x1_a17 then
        some (mo_newNodes_a17, mo_newPairs_a17, mo_due_a17, mo_newOne_a17, mo_newFrom_a17, mo_newTo_a17, x1_a17)
      else
        if x1_a17 < 0 ∨ 25 ≤ (x1_a17).toNatClampNeg then none else
        Option.bind (f_X6_takes mo_newNodes_a17 mo_newPairs_a17 mo_due_a17 mo_newOne_a17 mo_newFrom_a17 mo_newTo_a17 (mo_page (x1_a17).toNatClampNeg)) fun (r12, mo_newNodes_13, mo_newPairs_14, mo_due_15, mo_newOne_16, mo_newFrom_17, mo_newTo_18) =>
        if r12 = (0 : Int32) then
          some (mo_newNodes_13, mo_newPairs_14, mo_due_15, mo_newOne_16, mo_newFrom_17, mo_newTo_18, x1_a17)
        else
          f_X6_goAlong_L17 mo_pageLength mo_page n mo_newNodes_13 mo_newPairs_14 mo_due_15 mo_newOne_16 mo_newFrom_17 mo_newTo_18 (x1_a17 + (1 : Int32))
theorem f_X6_goAlong_L17_s (mo_pageLength : Int32) (mo_page : Nat → Int32) (n : Nat) (mo_newNodes_a17 : Int32) (mo_newPairs_a17 : Int32) (mo_due_a17 : Int32) (mo_newOne_a17 : Int32) (mo_newFrom_a17 : Nat → Int32) (mo_newTo_a17 : Nat → Int32) (x1_a17 : Int32) : f_X6_goAlong_L17 mo_pageLength mo_page (n + 1) mo_newNodes_a17 mo_newPairs_a17 mo_due_a17 mo_newOne_a17 mo_newFrom_a17 mo_newTo_a17 x1_a17 =
      (if mo_pageLength ≤ x1_a17 then
        some (mo_newNodes_a17, mo_newPairs_a17, mo_due_a17, mo_newOne_a17, mo_newFrom_a17, mo_newTo_a17, x1_a17)
      else
        if x1_a17 < 0 ∨ 25 ≤ (x1_a17).toNatClampNeg then none else
        Option.bind (f_X6_takes mo_newNodes_a17 mo_newPairs_a17 mo_due_a17 mo_newOne_a17 mo_newFrom_a17 mo_newTo_a17 (mo_page (x1_a17).toNatClampNeg)) fun (r12, mo_newNodes_13, mo_newPairs_14, mo_due_15, mo_newOne_16, mo_newFrom_17, mo_newTo_18) =>
        if r12 = (0 : Int32) then
          some (mo_newNodes_13, mo_newPairs_14, mo_due_15, mo_newOne_16, mo_newFrom_17, mo_newTo_18, x1_a17)
        else
          f_X6_goAlong_L17 mo_pageLength mo_page n mo_newNodes_13 mo_newPairs_14 mo_due_15 mo_newOne_16 mo_newFrom_17 mo_newTo_18 (x1_a17 + (1 : Int32))) := rfl
def f_X6_goAlong (mo_pageLength : Int32) (mo_page : Nat → Int32) (mo_newOne : Int32) (mo_newFrom : Nat → Int32) (mo_newTo : Nat → Int32) : Option (Int32 × Int32 × Int32 × Int32 × Int32 × (Nat → Int32) × (Nat → Int32)) :=
  Option.bind (f_X6_goAlong_L17 mo_pageLength mo_page 100 (0 : Int32) (0 : Int32) (0 : Int32) mo_newOne mo_newFrom mo_newTo (0 : Int32)) fun (mo_newNodes_o1, mo_newPairs_o2, mo_due_o3, mo_newOne_o4, mo_newFrom_o5, mo_newTo_o6, x1_o7) =>
  some (x1_o7, mo_newNodes_o1, mo_newPairs_o2, mo_due_o3, mo_newOne_o4, mo_newFrom_o5, mo_newTo_o6)
abbrev rm_X6_goAlong : Room := { frames := 3, cells := 0, slots := 0, locals := 68 }
set_option maxHeartbeats 4000000 in
set_option maxRecDepth 100000 in
theorem c_X6_goAlong (l : Launch) (D : va_G) (cI cJ : ClassId) (ad : Nat → Nat) (sz : Nat) {mo_pageLength : Int32} {mo_page : Nat → Int32} {mo_nodes mo_links : Int32} {mo_fromOf mo_toOf : Nat → Int32} {mo_width mo_drawn mo_seed : Int32} {mo_bundleOf : Nat → Int32} {mo_netsRead mo_sent mo_passagesEver mo_astrayEver mo_loopsEver mo_newNodes mo_newPairs mo_due mo_newOne : Int32} {mo_newFrom mo_newTo : Nat → Int32} {mo_marks : Nat → Int64} {mo_drawing : Int64} {mo_leftOf : Nat → Int32} {mo_wayMany : Int32} {mo_wayAt : Nat → Int32} {mo_bitsNow : Int64} {mo_passages mo_astray mo_loops mo_steps mo_reached mo_others : Int32} {mo_h : Int64}  {o_res : Int32} {o_mo_newNodes : Int32} {o_mo_newPairs : Int32} {o_mo_due : Int32} {o_mo_newOne : Int32} {o_mo_newFrom : Nat → Int32} {o_mo_newTo : Nat → Int32} (hf : f_X6_goAlong mo_pageLength mo_page mo_newOne mo_newFrom mo_newTo = some (o_res, o_mo_newNodes, o_mo_newPairs, o_mo_due, o_mo_newOne, o_mo_newFrom, o_mo_newTo)) : CtI l yX6_goAlong wsX6_goAlong rm_X6_goAlong D cI cJ [.ref (ad 15)] (wdM cI cJ ad mo_pageLength mo_page mo_nodes mo_links mo_fromOf mo_toOf mo_width mo_drawn mo_seed mo_bundleOf mo_netsRead mo_sent mo_passagesEver mo_astrayEver mo_loopsEver mo_newNodes mo_newPairs mo_due mo_newOne mo_newFrom mo_newTo mo_marks mo_drawing mo_leftOf mo_wayMany mo_wayAt mo_bitsNow mo_passages mo_astray mo_loops mo_steps mo_reached mo_others mo_h) sz o_res (wdM cI cJ ad mo_pageLength mo_page mo_nodes mo_links mo_fromOf mo_toOf mo_width mo_drawn mo_seed mo_bundleOf mo_netsRead mo_sent mo_passagesEver mo_astrayEver mo_loopsEver o_mo_newNodes o_mo_newPairs o_mo_due o_mo_newOne o_mo_newFrom o_mo_newTo mo_marks mo_drawing mo_leftOf mo_wayMany mo_wayAt mo_bitsNow mo_passages mo_astray mo_loops mo_steps mo_reached mo_others mo_h) := by
  refine ctI_of (cc := cX6_goAlong) (maxL := 2) (by decide) rfl (Nat.le_of_ble_eq_true rfl) ?_
  intro p e s m below meth c Q A hx hb hml hown hts hK hN hA hret ls hl hP hD hS
  obtain ⟨args, hargs⟩ : ∃ a : Array Value, a = [.ref (ad 15)].toArray := ⟨_, rfl⟩
  rw [← hargs] at hts hret ⊢
  have hown : s.vm.findClass RX6 = some m.cls := hown
  have hl : lv_has ls 2 [(0, .ref (ad 15))] := hl
  have hin_X6 : ∀ w ∈ wsX60, w ∈ wsX6_goAlong := fun _ h => List.mem_cons_of_mem _ (List.mem_append_right _ h)
  have fl_7 : (Cond.fieldLink RX6 7 "FoldedWaysModel" "page" "[I").before args s = true := hat hts 5 rfl
  have fl_52 : (Cond.fieldLink RX6 52 "FoldedWaysModel" "pageLength" "I").before args s = true := hat hts 4 rfl
  have fl_55 : (Cond.fieldLink RX6 55 "FoldedWaysModel" "newPairs" "I").before args s = true := hat hts 2 rfl
  have fl_58 : (Cond.fieldLink RX6 58 "FoldedWaysModel" "newNodes" "I").before args s = true := hat hts 1 rfl
  have fl_61 : (Cond.fieldLink RX6 61 "FoldedWaysModel" "due" "I").before args s = true := hat hts 3 rfl
  unfold f_X6_goAlong at hf
  refine lv_aload_n hx hb dX6_goAlong_0 rfl (lv_at hl 0 rfl) ?_
  refine lv_iconst (v := (0 : Int32)) hx hb dX6_goAlong_1 (by decide) ?_
  refine va_put (ci := 6) (v := .int (0 : Int32)) (ty := .int) (C := RX6) (T := TX6) (N := 34) hx hb hts hin_X6 tyX6 tyX6_ok nmX6 hown hK hP hD hS 0 rfl rfl 15 (by decide) fl_58 (fun _ h9 => h9) rfl (by decide +kernel) rfl rfl (Nat.le_of_ble_eq_true rfl) dX6_goAlong_2 (fun H locs hP hD hS => ?_)
  have hP : va_P D vwCl (wdM cI cJ ad mo_pageLength mo_page mo_nodes mo_links mo_fromOf mo_toOf mo_width mo_drawn mo_seed mo_bundleOf mo_netsRead mo_sent mo_passagesEver mo_astrayEver mo_loopsEver (0 : Int32) mo_newPairs mo_due mo_newOne mo_newFrom mo_newTo mo_marks mo_drawing mo_leftOf mo_wayMany mo_wayAt mo_bitsNow mo_passages mo_astray mo_loops mo_steps mo_reached mo_others mo_h) H := hP
  have hD : va_D A (wdM cI cJ ad mo_pageLength mo_page mo_nodes mo_links mo_fromOf mo_toOf mo_width mo_drawn mo_seed mo_bundleOf mo_netsRead mo_sent mo_passagesEver mo_astrayEver mo_loopsEver (0 : Int32) mo_newPairs mo_due mo_newOne mo_newFrom mo_newTo mo_marks mo_drawing mo_leftOf mo_wayMany mo_wayAt mo_bitsNow mo_passages mo_astray mo_loops mo_steps mo_reached mo_others mo_h) := hD
  refine lv_aload_n hx hb dX6_goAlong_5 rfl (lv_at hl 0 rfl) ?_
  refine lv_iconst (v := (0 : Int32)) hx hb dX6_goAlong_6 (by decide) ?_
  refine va_put (ci := 6) (v := .int (0 : Int32)) (ty := .int) (C := RX6) (T := TX6) (N := 34) hx hb hts hin_X6 tyX6 tyX6_ok nmX6 hown hK hP hD hS 0 rfl rfl 16 (by decide) fl_55 (fun _ h9 => h9) rfl (by decide +kernel) rfl rfl (Nat.le_of_ble_eq_true rfl) dX6_goAlong_7 (fun H locs hP hD hS => ?_)
  have hP : va_P D vwCl (wdM cI cJ ad mo_pageLength mo_page mo_nodes mo_links mo_fromOf mo_toOf mo_width mo_drawn mo_seed mo_bundleOf mo_netsRead mo_sent mo_passagesEver mo_astrayEver mo_loopsEver (0 : Int32) (0 : Int32) mo_due mo_newOne mo_newFrom mo_newTo mo_marks mo_drawing mo_leftOf mo_wayMany mo_wayAt mo_bitsNow mo_passages mo_astray mo_loops mo_steps mo_reached mo_others mo_h) H := hP
  have hD : va_D A (wdM cI cJ ad mo_pageLength mo_page mo_nodes mo_links mo_fromOf mo_toOf mo_width mo_drawn mo_seed mo_bundleOf mo_netsRead mo_sent mo_passagesEver mo_astrayEver mo_loopsEver (0 : Int32) (0 : Int32) mo_due mo_newOne mo_newFrom mo_newTo mo_marks mo_drawing mo_leftOf mo_wayMany mo_wayAt mo_bitsNow mo_passages mo_astray mo_loops mo_steps mo_reached mo_others mo_h) := hD
  refine lv_aload_n hx hb dX6_goAlong_10 rfl (lv_at hl 0 rfl) ?_
  refine lv_iconst (v := (0 : Int32)) hx hb dX6_goAlong_11 (by decide) ?_
  refine va_put (ci := 6) (v := .int (0 : Int32)) (ty := .int) (C := RX6) (T := TX6) (N := 34) hx hb hts hin_X6 tyX6 tyX6_ok nmX6 hown hK hP hD hS 0 rfl rfl 17 (by decide) fl_61 (fun _ h9 => h9) rfl (by decide +kernel) rfl rfl (Nat.le_of_ble_eq_true rfl) dX6_goAlong_12 (fun H locs hP hD hS => ?_)
  have hP : va_P D vwCl (wdM cI cJ ad mo_pageLength mo_page mo_nodes mo_links mo_fromOf mo_toOf mo_width mo_drawn mo_seed mo_bundleOf mo_netsRead mo_sent mo_passagesEver mo_astrayEver mo_loopsEver (0 : Int32) (0 : Int32) (0 : Int32) mo_newOne mo_newFrom mo_newTo mo_marks mo_drawing mo_leftOf mo_wayMany mo_wayAt mo_bitsNow mo_passages mo_astray mo_loops mo_steps mo_reached mo_others mo_h) H := hP
  have hD : va_D A (wdM cI cJ ad mo_pageLength mo_page mo_nodes mo_links mo_fromOf mo_toOf mo_width mo_drawn mo_seed mo_bundleOf mo_netsRead mo_sent mo_passagesEver mo_astrayEver mo_loopsEver (0 : Int32) (0 : Int32) (0 : Int32) mo_newOne mo_newFrom mo_newTo mo_marks mo_drawing mo_leftOf mo_wayMany mo_wayAt mo_bitsNow mo_passages mo_astray mo_loops mo_steps mo_reached mo_others mo_h) := hD
  refine lv_iconst (v := (0 : Int32)) hx hb dX6_goAlong_15 (by decide) ?_
  refine lv_istore_n (lv' := [(1, .int (0 : Int32)), (0, .ref (ad 15))]) hx hb dX6_goAlong_16 rfl hl (by decide) rfl (fun ls hl => ?_)
  have lp8 : ∀ (n : Nat) (mo_newNodes_a17 : Int32) (mo_newPairs_a17 : Int32) (mo_due_a17 : Int32) (mo_newOne_a17 : Int32) (mo_newFrom_a17 : Nat → Int32) (mo_newTo_a17 : Nat → Int32) (x1_a17 : Int32) (mo_newNodes_o1 : Int32) (mo_newPairs_o2 : Int32) (mo_due_o3 : Int32) (mo_newOne_o4 : Int32) (mo_newFrom_o5 : Nat → Int32) (mo_newTo_o6 : Nat → Int32) (x1_o7 : Int32), f_X6_goAlong_L17 mo_pageLength mo_page n mo_newNodes_a17 mo_newPairs_a17 mo_due_a17 mo_newOne_a17 mo_newFrom_a17 mo_newTo_a17 x1_a17 = some (mo_newNodes_o1, mo_newPairs_o2, mo_due_o3, mo_newOne_o4, mo_newFrom_o5, mo_newTo_o6, x1_o7) → (∀ (H : Heap) (locs : List Loc) (ls : Array Slot), va_P D vwCl (wdM cI cJ ad mo_pageLength mo_page mo_nodes mo_links mo_fromOf mo_toOf mo_width mo_drawn mo_seed mo_bundleOf mo_netsRead mo_sent mo_passagesEver mo_astrayEver mo_loopsEver mo_newNodes_o1 mo_newPairs_o2 mo_due_o3 mo_newOne_o4 mo_newFrom_o5 mo_newTo_o6 mo_marks mo_drawing mo_leftOf mo_wayMany mo_wayAt mo_bitsNow mo_passages mo_astray mo_loops mo_steps mo_reached mo_others mo_h) H → va_D A (wdM cI cJ ad mo_pageLength mo_page mo_nodes mo_links mo_fromOf mo_toOf mo_width mo_drawn mo_seed mo_bundleOf mo_netsRead mo_sent mo_passagesEver mo_astrayEver mo_loopsEver mo_newNodes_o1 mo_newPairs_o2 mo_due_o3 mo_newOne_o4 mo_newFrom_o5 mo_newTo_o6 mo_marks mo_drawing mo_leftOf mo_wayMany mo_wayAt mo_bitsNow mo_passages mo_astray mo_loops mo_steps mo_reached mo_others mo_h) → va_S A s.heap H locs → lv_has ls 2 [(1, .int x1_o7)] → W p l e rm_X6_goAlong s m args below meth c H locs 0 0 Q (F0 m 44 ls [])) → ∀ (H : Heap) (locs : List Loc) (ls : Array Slot), va_P D vwCl (wdM cI cJ ad mo_pageLength mo_page mo_nodes mo_links mo_fromOf mo_toOf mo_width mo_drawn mo_seed mo_bundleOf mo_netsRead mo_sent mo_passagesEver mo_astrayEver mo_loopsEver mo_newNodes_a17 mo_newPairs_a17 mo_due_a17 mo_newOne_a17 mo_newFrom_a17 mo_newTo_a17 mo_marks mo_drawing mo_leftOf mo_wayMany mo_wayAt mo_bitsNow mo_passages mo_astray mo_loops mo_steps mo_reached mo_others mo_h) H → va_D A (wdM cI cJ ad mo_pageLength mo_page mo_nodes mo_links mo_fromOf mo_toOf mo_width mo_drawn mo_seed mo_bundleOf mo_netsRead mo_sent mo_passagesEver mo_astrayEver mo_loopsEver mo_newNodes_a17 mo_newPairs_a17 mo_due_a17 mo_newOne_a17 mo_newFrom_a17 mo_newTo_a17 mo_marks mo_drawing mo_leftOf mo_wayMany mo_wayAt mo_bitsNow mo_passages mo_astray mo_loops mo_steps mo_reached mo_others mo_h) → va_S A s.heap H locs → lv_has ls 2 [(0, .ref (ad 15)), (1, .int x1_a17)] → W p l e rm_X6_goAlong s m args below meth c H locs 0 0 Q (F0 m 17 ls []) := by
    intro n
    induction n with
    | zero =>
      intro mo_newNodes_a17 mo_newPairs_a17 mo_due_a17 mo_newOne_a17 mo_newFrom_a17 mo_newTo_a17 x1_a17 mo_newNodes_o1 mo_newPairs_o2 mo_due_o3 mo_newOne_o4 mo_newFrom_o5 mo_newTo_o6 x1_o7 h0
      exact oo_n h0
    | succ n ih =>
      intro mo_newNodes_a17 mo_newPairs_a17 mo_due_a17 mo_newOne_a17 mo_newFrom_a17 mo_newTo_a17 x1_a17 mo_newNodes_o1 mo_newPairs_o2 mo_due_o3 mo_newOne_o4 mo_newFrom_o5 mo_newTo_o6 x1_o7 hf kk H locs ls hP hD hS hl
      rw [f_X6_goAlong_L17_s] at hf
      refine lv_iload_n hx hb dX6_goAlong_17 rfl (lv_at hl 1 rfl) ?_
      refine lv_aload_n hx hb dX6_goAlong_18 rfl (lv_at hl 0 rfl) ?_
      refine va_get (ci := 6) (v := .int mo_pageLength) (C := RX6) (T := TX6) (N := 34) hx hb hts hin_X6 hown hK hP 0 rfl rfl 0 (by decide) fl_52 (fun _ h9 => h9) rfl dX6_goAlong_19 ?_
      refine lv_icmp_ge (tgt := 44) hx hb dX6_goAlong_22 (by decide) (fun c9 => ?_) (fun c9 => ?_)
      · have hf := oo_t hf c9
        cases hf
        exact kk _ _ _ hP hD hS (lv_sub hl [1] rfl)
      · have hf := oo_f hf c9
        refine lv_aload_n hx hb dX6_goAlong_25 rfl (lv_at hl 0 rfl) ?_
        refine lv_aload_n hx hb dX6_goAlong_26 rfl (lv_at hl 0 rfl) ?_
        refine va_get (ci := 6) (v := .ref (ad 16)) (C := RX6) (T := TX6) (N := 34) hx hb hts hin_X6 hown hK hP 0 rfl rfl 1 (by decide) fl_7 (fun _ h9 => h9) rfl dX6_goAlong_27 ?_
        refine lv_iload_n hx hb dX6_goAlong_30 rfl (lv_at hl 1 rfl) ?_
        obtain ⟨g10, hf⟩ := oo_g hf
        refine va_iald hx hb hK hP 1 0 rfl rfl g10 dX6_goAlong_31 ?_
        obtain ⟨⟨r12, mo_newNodes_13, mo_newPairs_14, mo_due_15, mo_newOne_16, mo_newFrom_17, mo_newTo_18⟩, h11, hf⟩ := oo_b hf
        try dsimp only at hf
        have F : Fr D A _ (wdM cI cJ ad mo_pageLength mo_page mo_nodes mo_links mo_fromOf mo_toOf mo_width mo_drawn mo_seed mo_bundleOf mo_netsRead mo_sent mo_passagesEver mo_astrayEver mo_loopsEver mo_newNodes_a17 mo_newPairs_a17 mo_due_a17 mo_newOne_a17 mo_newFrom_a17 mo_newTo_a17 mo_marks mo_drawing mo_leftOf mo_wayMany mo_wayAt mo_bitsNow mo_passages mo_astray mo_loops mo_steps mo_reached mo_others mo_h) (wdM cI cJ ad mo_pageLength mo_page mo_nodes mo_links mo_fromOf mo_toOf mo_width mo_drawn mo_seed mo_bundleOf mo_netsRead mo_sent mo_passagesEver mo_astrayEver mo_loopsEver mo_newNodes_13 mo_newPairs_14 mo_due_15 mo_newOne_16 mo_newFrom_17 mo_newTo_18 mo_marks mo_drawing mo_leftOf mo_wayMany mo_wayAt mo_bitsNow mo_passages mo_astray mo_loops mo_steps mo_reached mo_others mo_h) (wdM cI cJ ad mo_pageLength mo_page mo_nodes mo_links mo_fromOf mo_toOf mo_width mo_drawn mo_seed mo_bundleOf mo_netsRead mo_sent mo_passagesEver mo_astrayEver mo_loopsEver mo_newNodes_13 mo_newPairs_14 mo_due_15 mo_newOne_16 mo_newFrom_17 mo_newTo_18 mo_marks mo_drawing mo_leftOf mo_wayMany mo_wayAt mo_bitsNow mo_passages mo_astray mo_loops mo_steps mo_reached mo_others mo_h) := fr_self hP hD hS hA
        refine kZ F hS (rV (q := (RX6, TX6, 34)) (As := [.int (mo_page (x1_a17).toNatClampNeg)]) (rest := []) ⟨hx, hb, hml, hown, hts⟩ hK hN F (c_X6_takes l D cI cJ ad _ (mo_pageLength := mo_pageLength) (mo_page := mo_page) (mo_nodes := mo_nodes) (mo_links := mo_links) (mo_fromOf := mo_fromOf) (mo_toOf := mo_toOf) (mo_width := mo_width) (mo_drawn := mo_drawn) (mo_seed := mo_seed) (mo_bundleOf := mo_bundleOf) (mo_netsRead := mo_netsRead) (mo_sent := mo_sent) (mo_passagesEver := mo_passagesEver) (mo_astrayEver := mo_astrayEver) (mo_loopsEver := mo_loopsEver) (mo_newNodes := mo_newNodes_a17) (mo_newPairs := mo_newPairs_a17) (mo_due := mo_due_a17) (mo_newOne := mo_newOne_a17) (mo_newFrom := mo_newFrom_a17) (mo_newTo := mo_newTo_a17) (mo_marks := mo_marks) (mo_drawing := mo_drawing) (mo_leftOf := mo_leftOf) (mo_wayMany := mo_wayMany) (mo_wayAt := mo_wayAt) (mo_bitsNow := mo_bitsNow) (mo_passages := mo_passages) (mo_astray := mo_astray) (mo_loops := mo_loops) (mo_steps := mo_steps) (mo_reached := mo_reached) (mo_others := mo_others) (mo_h := mo_h) (mo_page (x1_a17).toNatClampNeg) (o_res := r12) (o_mo_newNodes := mo_newNodes_13) (o_mo_newPairs := mo_newPairs_14) (o_mo_due := mo_due_15) (o_mo_newOne := mo_newOne_16) (o_mo_newFrom := mo_newFrom_17) (o_mo_newTo := mo_newTo_18) h11) (cwV 1 hts gX6_goAlong_X6_takes rfl rfl rfl (by decide +kernel) ⟨Nat.le_of_ble_eq_true rfl, Nat.le_of_ble_eq_true rfl⟩) (ci := 6) rfl rfl rfl hl.1 rfl (Nat.le_of_ble_eq_true rfl) dX6_goAlong_32 ⟨Nat.zero_le _, Nat.zero_le _⟩) (fun H locs hb19 hP hD hS => ?_)
        refine lv_if_eq (tgt := 44) hx hb dX6_goAlong_35 (by decide) (fun c20 => ?_) (fun c20 => ?_)
        · have hf := oo_t hf c20
          cases hf
          exact kk _ _ _ hP hD hS (lv_sub hl [1] rfl)
        · have hf := oo_f hf c20
          refine lv_iinc (v := (x1_a17 + (1 : Int32))) (lv' := [(1, .int (x1_a17 + (1 : Int32))), (0, .ref (ad 15))]) hx hb dX6_goAlong_38 hl (k := 1) rfl rfl (by decide) rfl (fun ls hl => ?_)
          refine lv_goto (tgt := 17) hx hb dX6_goAlong_41 (by decide) ?_
          exact ih mo_newNodes_13 mo_newPairs_14 mo_due_15 mo_newOne_16 mo_newFrom_17 mo_newTo_18 (x1_a17 + (1 : Int32)) _ _ _ _ _ _ _ hf kk _ _ _ hP hD hS (lv_sub hl [1, 0] rfl)
  obtain ⟨⟨mo_newNodes_o1, mo_newPairs_o2, mo_due_o3, mo_newOne_o4, mo_newFrom_o5, mo_newTo_o6, x1_o7⟩, h21, hf⟩ := oo_b hf
  try dsimp only at hf
  refine lp8  100 (0 : Int32) (0 : Int32) (0 : Int32) mo_newOne mo_newFrom mo_newTo (0 : Int32) mo_newNodes_o1 mo_newPairs_o2 mo_due_o3 mo_newOne_o4 mo_newFrom_o5 mo_newTo_o6 x1_o7 h21 (fun H locs ls hP hD hS hl => ?_) _ _ _ hP hD hS (lv_sub hl [1, 0] rfl)
  refine lv_iload_n hx hb dX6_goAlong_44 rfl (lv_at hl 0 rfl) ?_
  cases hf
  exact hret _ _ _ _ dX6_goAlong_45 hP hD hS
