def f_X2_hasNode (gr_nodes : Int32) (x1 : Int32) : Int32 :=
  if x1 < (0 : Int32) then
    (0 : Int32)
  else
    if gr_nodes ≤ x1 then
      (0 : Int32)
    else
      (1 : Int32)
abbrev rm_X2_hasNode : Room := { frames := 0, cells := 0, slots := 0, locals := 0 }
set_option maxHeartbeats 4000000 in
set_option maxRecDepth 100000 in
theorem c_X2_hasNode (l : Launch) (D : va_G) (cI cJ : ClassId) (ad : Nat → Nat) (sz : Nat) {gr_nodes gr_links : Int32} {gr_start gr_end gr_linkBetween gr_wayLength gr_wayNext gr_wayLinks : Nat → Int32} (x1 : Int32) {o_res : Int32} (hf : f_X2_hasNode gr_nodes x1 = o_res) : CtZ l yX2_hasNode wsX2_hasNode rm_X2_hasNode D cI cJ [.ref (ad 3), .int x1] (wdG cI cJ ad gr_nodes gr_links gr_start gr_end gr_linkBetween gr_wayLength gr_wayNext gr_wayLinks) sz o_res (wdG cI cJ ad gr_nodes gr_links gr_start gr_end gr_linkBetween gr_wayLength gr_wayNext gr_wayLinks) := by
  refine ctZ_of (cc := cX2_hasNode) (maxL := 2) (by decide) rfl (Nat.le_of_ble_eq_true rfl) ?_
  intro p e s m below meth c Q A hx hb hml hown hts hK hN hA hret ls hl hP hD hS
  obtain ⟨args, hargs⟩ : ∃ a : Array Value, a = [.ref (ad 3), .int x1].toArray := ⟨_, rfl⟩
  rw [← hargs] at hts hret ⊢
  have hown : s.vm.findClass RX2 = some m.cls := hown
  have hl : lv_has ls 2 [(0, .ref (ad 3)), (1, .int x1)] := hl
  have hin_X2 : ∀ w ∈ wsX20, w ∈ wsX2_hasNode := fun _ h => List.mem_cons_of_mem _ (List.mem_append_right _ h)
  have fl_30 : (Cond.fieldLink RX2 30 "FoldedWays$Graph" "nodes" "I").before args s = true := hat hts 1 rfl
  unfold f_X2_hasNode at hf
  refine lv_iload_n hx hb dX2_hasNode_0 rfl (lv_at hl 1 rfl) ?_
  refine lv_if_lt (tgt := 16) hx hb dX2_hasNode_1 (by decide) (fun c1 => ?_) (fun c1 => ?_)
  · have hf := oo_t hf c1
    refine lv_iconst (v := (0 : Int32)) hx hb dX2_hasNode_16 (by decide) ?_
    cases hf
    exact hret _ _ _ _ (Or.inl rfl) dX2_hasNode_17 hP hD hS
  · have hf := oo_f hf c1
    refine lv_iload_n hx hb dX2_hasNode_4 rfl (lv_at hl 1 rfl) ?_
    refine lv_aload_n hx hb dX2_hasNode_5 rfl (lv_at hl 0 rfl) ?_
    refine va_get (ci := 2) (v := .int gr_nodes) (C := RX2) (T := TX2) (N := 8) hx hb hts hin_X2 hown hK hP 0 rfl rfl 0 (by decide) fl_30 (fun _ h9 => h9) rfl dX2_hasNode_6 ?_
    refine lv_icmp_ge (tgt := 16) hx hb dX2_hasNode_9 (by decide) (fun c2 => ?_) (fun c2 => ?_)
    · have hf := oo_t hf c2
      refine lv_iconst (v := (0 : Int32)) hx hb dX2_hasNode_16 (by decide) ?_
      cases hf
      exact hret _ _ _ _ (Or.inl rfl) dX2_hasNode_17 hP hD hS
    · have hf := oo_f hf c2
      refine lv_iconst (v := (1 : Int32)) hx hb dX2_hasNode_12 (by decide) ?_
      refine lv_goto (tgt := 17) hx hb dX2_hasNode_13 (by decide) ?_
      cases hf
      exact hret _ _ _ _ (Or.inr rfl) dX2_hasNode_17 hP hD hS
def f_X2_hasLink (gr_links : Int32) (x1 : Int32) : Int32 :=
  if x1 < (0 : Int32) then
    (0 : Int32)
  else
    if gr_links ≤ x1 then
      (0 : Int32)
    else
      (1 : Int32)
abbrev rm_X2_hasLink : Room := { frames := 0, cells := 0, slots := 0, locals := 0 }
set_option maxHeartbeats 4000000 in
set_option maxRecDepth 100000 in
theorem c_X2_hasLink (l : Launch) (D : va_G) (cI cJ : ClassId) (ad : Nat → Nat) (sz : Nat) {gr_nodes gr_links : Int32} {gr_start gr_end gr_linkBetween gr_wayLength gr_wayNext gr_wayLinks : Nat → Int32} (x1 : Int32) {o_res : Int32} (hf : f_X2_hasLink gr_links x1 = o_res) : CtZ l yX2_hasLink wsX2_hasLink rm_X2_hasLink D cI cJ [.ref (ad 3), .int x1] (wdG cI cJ ad gr_nodes gr_links gr_start gr_end gr_linkBetween gr_wayLength gr_wayNext gr_wayLinks) sz o_res (wdG cI cJ ad gr_nodes gr_links gr_start gr_end gr_linkBetween gr_wayLength gr_wayNext gr_wayLinks) := by
  refine ctZ_of (cc := cX2_hasLink) (maxL := 2) (by decide) rfl (Nat.le_of_ble_eq_true rfl) ?_
  intro p e s m below meth c Q A hx hb hml hown hts hK hN hA hret ls hl hP hD hS
  obtain ⟨args, hargs⟩ : ∃ a : Array Value, a = [.ref (ad 3), .int x1].toArray := ⟨_, rfl⟩
  rw [← hargs] at hts hret ⊢
  have hown : s.vm.findClass RX2 = some m.cls := hown
  have hl : lv_has ls 2 [(0, .ref (ad 3)), (1, .int x1)] := hl
  have hin_X2 : ∀ w ∈ wsX20, w ∈ wsX2_hasLink := fun _ h => List.mem_cons_of_mem _ (List.mem_append_right _ h)
  have fl_34 : (Cond.fieldLink RX2 34 "FoldedWays$Graph" "links" "I").before args s = true := hat hts 1 rfl
  unfold f_X2_hasLink at hf
  refine lv_iload_n hx hb dX2_hasLink_0 rfl (lv_at hl 1 rfl) ?_
  refine lv_if_lt (tgt := 16) hx hb dX2_hasLink_1 (by decide) (fun c1 => ?_) (fun c1 => ?_)
  · have hf := oo_t hf c1
    refine lv_iconst (v := (0 : Int32)) hx hb dX2_hasLink_16 (by decide) ?_
    cases hf
    exact hret _ _ _ _ (Or.inl rfl) dX2_hasLink_17 hP hD hS
  · have hf := oo_f hf c1
    refine lv_iload_n hx hb dX2_hasLink_4 rfl (lv_at hl 1 rfl) ?_
    refine lv_aload_n hx hb dX2_hasLink_5 rfl (lv_at hl 0 rfl) ?_
    refine va_get (ci := 2) (v := .int gr_links) (C := RX2) (T := TX2) (N := 8) hx hb hts hin_X2 hown hK hP 0 rfl rfl 1 (by decide) fl_34 (fun _ h9 => h9) rfl dX2_hasLink_6 ?_
    refine lv_icmp_ge (tgt := 16) hx hb dX2_hasLink_9 (by decide) (fun c2 => ?_) (fun c2 => ?_)
    · have hf := oo_t hf c2
      refine lv_iconst (v := (0 : Int32)) hx hb dX2_hasLink_16 (by decide) ?_
      cases hf
      exact hret _ _ _ _ (Or.inl rfl) dX2_hasLink_17 hP hD hS
    · have hf := oo_f hf c2
      refine lv_iconst (v := (1 : Int32)) hx hb dX2_hasLink_12 (by decide) ?_
      refine lv_goto (tgt := 17) hx hb dX2_hasLink_13 (by decide) ?_
      cases hf
      exact hret _ _ _ _ (Or.inr rfl) dX2_hasLink_17 hP hD hS
def f_X2_allNodes (gr_nodes : Int32) : Int32 :=
  (((1 : Int32) <<< (gr_nodes &&& 31)) - (1 : Int32))
abbrev rm_X2_allNodes : Room := { frames := 0, cells := 0, slots := 0, locals := 0 }
set_option maxHeartbeats 4000000 in
set_option maxRecDepth 100000 in
theorem c_X2_allNodes (l : Launch) (D : va_G) (cI cJ : ClassId) (ad : Nat → Nat) (sz : Nat) {gr_nodes gr_links : Int32} {gr_start gr_end gr_linkBetween gr_wayLength gr_wayNext gr_wayLinks : Nat → Int32}  {o_res : Int32} (hf : f_X2_allNodes gr_nodes = o_res) : CtI l yX2_allNodes wsX2_allNodes rm_X2_allNodes D cI cJ [.ref (ad 3)] (wdG cI cJ ad gr_nodes gr_links gr_start gr_end gr_linkBetween gr_wayLength gr_wayNext gr_wayLinks) sz o_res (wdG cI cJ ad gr_nodes gr_links gr_start gr_end gr_linkBetween gr_wayLength gr_wayNext gr_wayLinks) := by
  refine ctI_of (cc := cX2_allNodes) (maxL := 1) (by decide) rfl (Nat.le_of_ble_eq_true rfl) ?_
  intro p e s m below meth c Q A hx hb hml hown hts hK hN hA hret ls hl hP hD hS
  obtain ⟨args, hargs⟩ : ∃ a : Array Value, a = [.ref (ad 3)].toArray := ⟨_, rfl⟩
  rw [← hargs] at hts hret ⊢
  have hown : s.vm.findClass RX2 = some m.cls := hown
  have hl : lv_has ls 1 [(0, .ref (ad 3))] := hl
  have hin_X2 : ∀ w ∈ wsX20, w ∈ wsX2_allNodes := fun _ h => List.mem_cons_of_mem _ (List.mem_append_right _ h)
  have fl_30 : (Cond.fieldLink RX2 30 "FoldedWays$Graph" "nodes" "I").before args s = true := hat hts 1 rfl
  unfold f_X2_allNodes at hf
  refine lv_iconst (v := (1 : Int32)) hx hb dX2_allNodes_0 (by decide) ?_
  refine lv_aload_n hx hb dX2_allNodes_1 rfl (lv_at hl 0 rfl) ?_
  refine va_get (ci := 2) (v := .int gr_nodes) (C := RX2) (T := TX2) (N := 8) hx hb hts hin_X2 hown hK hP 0 rfl rfl 0 (by decide) fl_30 (fun _ h9 => h9) rfl dX2_allNodes_2 ?_
  refine lv_ishl hx hb dX2_allNodes_5 ?_
  refine lv_iconst (v := (1 : Int32)) hx hb dX2_allNodes_6 (by decide) ?_
  refine lv_isub hx hb dX2_allNodes_7 ?_
  cases hf
  exact hret _ _ _ _ dX2_allNodes_8 hP hD hS
def f_X2_hasNodes (gr_nodes : Int32) (x1 : Int32) : Int32 :=
  if (x1 &&& ((f_X2_allNodes gr_nodes) ^^^ (-1 : Int32))) = (0 : Int32) then
    (1 : Int32)
  else
    (0 : Int32)
abbrev rm_X2_hasNodes : Room := { frames := 1, cells := 0, slots := 0, locals := 20 }
set_option maxHeartbeats 4000000 in
set_option maxRecDepth 100000 in
theorem c_X2_hasNodes (l : Launch) (D : va_G) (cI cJ : ClassId) (ad : Nat → Nat) (sz : Nat) {gr_nodes gr_links : Int32} {gr_start gr_end gr_linkBetween gr_wayLength gr_wayNext gr_wayLinks : Nat → Int32} (x1 : Int32) {o_res : Int32} (hf : f_X2_hasNodes gr_nodes x1 = o_res) : CtZ l yX2_hasNodes wsX2_hasNodes rm_X2_hasNodes D cI cJ [.ref (ad 3), .int x1] (wdG cI cJ ad gr_nodes gr_links gr_start gr_end gr_linkBetween gr_wayLength gr_wayNext gr_wayLinks) sz o_res (wdG cI cJ ad gr_nodes gr_links gr_start gr_end gr_linkBetween gr_wayLength gr_wayNext gr_wayLinks) := by
  refine ctZ_of (cc := cX2_hasNodes) (maxL := 2) (by decide) rfl (Nat.le_of_ble_eq_true rfl) ?_
  intro p e s m below meth c Q A hx hb hml hown hts hK hN hA hret ls hl hP hD hS
  obtain ⟨args, hargs⟩ : ∃ a : Array Value, a = [.ref (ad 3), .int x1].toArray := ⟨_, rfl⟩
  rw [← hargs] at hts hret ⊢
  have hown : s.vm.findClass RX2 = some m.cls := hown
  have hl : lv_has ls 2 [(0, .ref (ad 3)), (1, .int x1)] := hl
  unfold f_X2_hasNodes at hf
  refine lv_iload_n hx hb dX2_hasNodes_0 rfl (lv_at hl 1 rfl) ?_
  refine lv_aload_n hx hb dX2_hasNodes_1 rfl (lv_at hl 0 rfl) ?_
  have F : Fr D A _ (wdG cI cJ ad gr_nodes gr_links gr_start gr_end gr_linkBetween gr_wayLength gr_wayNext gr_wayLinks) (wdG cI cJ ad gr_nodes gr_links gr_start gr_end gr_linkBetween gr_wayLength gr_wayNext gr_wayLinks) (wdG cI cJ ad gr_nodes gr_links gr_start gr_end gr_linkBetween gr_wayLength gr_wayNext gr_wayLinks) := fr_self hP hD hS hA
  refine kI F hS (rV (q := (RX2, TX2, 8)) (As := []) (rest := [.int x1]) ⟨hx, hb, hml, hown, hts⟩ hK hN F (c_X2_allNodes l D cI cJ ad _ (gr_nodes := gr_nodes) (gr_links := gr_links) (gr_start := gr_start) (gr_end := gr_end) (gr_linkBetween := gr_linkBetween) (gr_wayLength := gr_wayLength) (gr_wayNext := gr_wayNext) (gr_wayLinks := gr_wayLinks)  (o_res := (f_X2_allNodes gr_nodes)) rfl) (cwV 0 hts gX2_hasNodes_X2_allNodes rfl rfl rfl (by decide +kernel) ⟨Nat.le_of_ble_eq_true rfl, Nat.le_of_ble_eq_true rfl⟩) (ci := 2) rfl rfl rfl hl.1 rfl (Nat.le_of_ble_eq_true rfl) dX2_hasNodes_2 ⟨Nat.zero_le _, Nat.zero_le _⟩) (fun H locs hP hD hS => ?_)
  refine lv_iconst (v := (-1 : Int32)) hx hb dX2_hasNodes_5 (by decide) ?_
  refine lv_ixor hx hb dX2_hasNodes_6 ?_
  refine lv_iand hx hb dX2_hasNodes_7 ?_
  refine lv_if_ne (tgt := 15) hx hb dX2_hasNodes_8 (by decide) (fun c2 => ?_) (fun c2 => ?_)
  · have hf := oo_f hf c2
    refine lv_iconst (v := (0 : Int32)) hx hb dX2_hasNodes_15 (by decide) ?_
    cases hf
    exact hret _ _ _ _ (Or.inl rfl) dX2_hasNodes_16 hP hD hS
  · have hf := oo_t hf c2
    refine lv_iconst (v := (1 : Int32)) hx hb dX2_hasNodes_11 (by decide) ?_
    refine lv_goto (tgt := 16) hx hb dX2_hasNodes_12 (by decide) ?_
    cases hf
    exact hret _ _ _ _ (Or.inr rfl) dX2_hasNodes_16 hP hD hS
def f_X2_at (x0 : Int32) (x1 : Int32) : Int32 :=
  (((6 : Int32) * x0) + x1)
abbrev rm_X2_at : Room := { frames := 0, cells := 0, slots := 0, locals := 0 }
set_option maxHeartbeats 4000000 in
set_option maxRecDepth 100000 in
theorem c_X2_at (l : Launch) (D : va_G) (cI cJ : ClassId) (ad : Nat → Nat) (sz : Nat)  (x0 : Int32) (x1 : Int32) {o_res : Int32} (hf : f_X2_at x0 x1 = o_res) : CtI l yX2_at wsX2_at rm_X2_at D cI cJ [.int x0, .int x1] [] sz o_res [] := by
  refine ctI_of (cc := cX2_at) (maxL := 2) (by decide) rfl (Nat.le_of_ble_eq_true rfl) ?_
  intro p e s m below meth c Q A hx hb hml hown hts hK hN hA hret ls hl hP hD hS
  obtain ⟨args, hargs⟩ : ∃ a : Array Value, a = [.int x0, .int x1].toArray := ⟨_, rfl⟩
  rw [← hargs] at hts hret ⊢
  have hown : s.vm.findClass RX2 = some m.cls := hown
  have hl : lv_has ls 2 [(0, .int x0), (1, .int x1)] := hl
  unfold f_X2_at at hf
  refine lv_bipush (v := (6 : Int32)) hx hb dX2_at_0 (by decide) ?_
  refine lv_iload_n hx hb dX2_at_2 rfl (lv_at hl 0 rfl) ?_
  refine lv_imul hx hb dX2_at_3 ?_
  refine lv_iload_n hx hb dX2_at_4 rfl (lv_at hl 1 rfl) ?_
  refine lv_iadd hx hb dX2_at_5 ?_
  cases hf
  exact hret _ _ _ _ dX2_at_6 hP hD hS
def f_X2_forget_L20 (x1_a12 : Int32) : Nat → (Nat → Int32) → (Nat → Int32) → (Nat → Int32) → (Nat → Int32) → Int32 → Option ((Nat → Int32) × (Nat → Int32) × (Nat → Int32) × (Nat → Int32))
  | 0, _, _, _, _, _ => none
  | n + 1, gr_linkBetween_a20, gr_wayLength_a20, gr_wayNext_a20, gr_wayLinks_a20, x2_a20 =>
      if (6 : Int32) ≤ x2_a20 then
        some (gr_linkBetween_a20, gr_wayLength_a20, gr_wayNext_a20, gr_wayLinks_a20)
      else
        if (f_X2_at x1_a12 x2_a20) < 0 ∨ 36 ≤ ((f_X2_at x1_a12 x2_a20)).toNatClampNeg then none else
        f_X2_forget_L20 x1_a12 n (upd gr_linkBetween_a20 ((f_X2_at x1_a12 x2_a20)).toNatClampNeg (-1 : Int32)) (upd gr_wayLength_a20 ((f_X2_at x1_a12 x2_a20)).toNatClampNeg (if x1_a12 = x2_a20 then (0 : Int32) else (-1 : Int32))) (upd gr_wayNext_a20 ((f_X2_at x1_a12 x2_a20)).toNatClampNeg (-1 : Int32)) (upd gr_wayLinks_a20 ((f_X2_at x1_a12 x2_a20)).toNatClampNeg (0 : Int32)) (x2_a20 + (1 : Int32))
theorem f_X2_forget_L20_s (x1_a12 : Int32) (n : Nat) (gr_linkBetween_a20 : Nat → Int32) (gr_wayLength_a20 : Nat → Int32) (gr_wayNext_a20 : Nat → Int32) (gr_wayLinks_a20 : Nat → Int32) (x2_a20 : Int32) : f_X2_forget_L20 x1_a12 (n + 1) gr_linkBetween_a20 gr_wayLength_a20 gr_wayNext_a20 gr_wayLinks_a20 x2_a20 =
      (if (6 : Int32) ≤ x2_a20 then
        some (gr_linkBetween_a20, gr_wayLength_a20, gr_wayNext_a20, gr_wayLinks_a20)
      else
        if (f_X2_at x1_a12 x2_a20) < 0 ∨ 36 ≤ ((f_X2_at x1_a12 x2_a20)).toNatClampNeg then none else
        f_X2_forget_L20 x1_a12 n (upd gr_linkBetween_a20 ((f_X2_at x1_a12 x2_a20)).toNatClampNeg (-1 : Int32)) (upd gr_wayLength_a20 ((f_X2_at x1_a12 x2_a20)).toNatClampNeg (if x1_a12 = x2_a20 then (0 : Int32) else (-1 : Int32))) (upd gr_wayNext_a20 ((f_X2_at x1_a12 x2_a20)).toNatClampNeg (-1 : Int32)) (upd gr_wayLinks_a20 ((f_X2_at x1_a12 x2_a20)).toNatClampNeg (0 : Int32)) (x2_a20 + (1 : Int32))) := rfl
def f_X2_forget_L12  : Nat → (Nat → Int32) → (Nat → Int32) → (Nat → Int32) → (Nat → Int32) → Int32 → Option ((Nat → Int32) × (Nat → Int32) × (Nat → Int32) × (Nat → Int32))
  | 0, _, _, _, _, _ => none
  | n + 1, gr_linkBetween_a12, gr_wayLength_a12, gr_wayNext_a12, gr_wayLinks_a12, x1_a12 =>
      if (6 : Int32) ≤ x1_a12 then
        some (gr_linkBetween_a12, gr_wayLength_a12, gr_wayNext_a12, gr_wayLinks_a12)
      else
        Option.bind (f_X2_forget_L20 x1_a12 100 gr_linkBetween_a12 gr_wayLength_a12 gr_wayNext_a12 gr_wayLinks_a12 (0 : Int32)) fun (gr_linkBetween_o7, gr_wayLength_o8, gr_wayNext_o9, gr_wayLinks_o10) =>
        f_X2_forget_L12  n gr_linkBetween_o7 gr_wayLength_o8 gr_wayNext_o9 gr_wayLinks_o10 (x1_a12 + (1 : Int32))
theorem f_X2_forget_L12_s  (n : Nat) (gr_linkBetween_a12 : Nat → Int32) (gr_wayLength_a12 : Nat → Int32) (gr_wayNext_a12 : Nat → Int32) (gr_wayLinks_a12 : Nat → Int32) (x1_a12 : Int32) : f_X2_forget_L12  (n + 1) gr_linkBetween_a12 gr_wayLength_a12 gr_wayNext_a12 gr_wayLinks_a12 x1_a12 =
      (if (6 : Int32) ≤ x1_a12 then
        some (gr_linkBetween_a12, gr_wayLength_a12, gr_wayNext_a12, gr_wayLinks_a12)
      else
        Option.bind (f_X2_forget_L20 x1_a12 100 gr_linkBetween_a12 gr_wayLength_a12 gr_wayNext_a12 gr_wayLinks_a12 (0 : Int32)) fun (gr_linkBetween_o7, gr_wayLength_o8, gr_wayNext_o9, gr_wayLinks_o10) =>
        f_X2_forget_L12  n gr_linkBetween_o7 gr_wayLength_o8 gr_wayNext_o9 gr_wayLinks_o10 (x1_a12 + (1 : Int32))) := rfl
def f_X2_forget (gr_linkBetween : Nat → Int32) (gr_wayLength : Nat → Int32) (gr_wayNext : Nat → Int32) (gr_wayLinks : Nat → Int32) : Option (Int32 × Int32 × (Nat → Int32) × (Nat → Int32) × (Nat → Int32) × (Nat → Int32)) :=
  Option.bind (f_X2_forget_L12  100 gr_linkBetween gr_wayLength gr_wayNext gr_wayLinks (0 : Int32)) fun (gr_linkBetween_o1, gr_wayLength_o2, gr_wayNext_o3, gr_wayLinks_o4) =>
  some ((0 : Int32), (0 : Int32), gr_linkBetween_o1, gr_wayLength_o2, gr_wayNext_o3, gr_wayLinks_o4)
abbrev rm_X2_forget : Room := { frames := 1, cells := 0, slots := 0, locals := 21 }
set_option maxHeartbeats 4000000 in
set_option maxRecDepth 100000 in
theorem c_X2_forget (l : Launch) (D : va_G) (cI cJ : ClassId) (ad : Nat → Nat) (sz : Nat) {gr_nodes gr_links : Int32} {gr_start gr_end gr_linkBetween gr_wayLength gr_wayNext gr_wayLinks : Nat → Int32}  {o_gr_nodes : Int32} {o_gr_links : Int32} {o_gr_linkBetween : Nat → Int32} {o_gr_wayLength : Nat → Int32} {o_gr_wayNext : Nat → Int32} {o_gr_wayLinks : Nat → Int32} (hf : f_X2_forget gr_linkBetween gr_wayLength gr_wayNext gr_wayLinks = some (o_gr_nodes, o_gr_links, o_gr_linkBetween, o_gr_wayLength, o_gr_wayNext, o_gr_wayLinks)) : CtV l yX2_forget wsX2_forget rm_X2_forget D cI cJ [.ref (ad 3)] (wdG cI cJ ad gr_nodes gr_links gr_start gr_end gr_linkBetween gr_wayLength gr_wayNext gr_wayLinks) sz (wdG cI cJ ad o_gr_nodes o_gr_links gr_start gr_end o_gr_linkBetween o_gr_wayLength o_gr_wayNext o_gr_wayLinks) := by
  refine ctV_of (cc := cX2_forget) (maxL := 3) (by decide) rfl (Nat.le_of_ble_eq_true rfl) ?_
  intro p e s m below meth c Q A hx hb hml hown hts hK hN hA hret ls hl hP hD hS
  obtain ⟨args, hargs⟩ : ∃ a : Array Value, a = [.ref (ad 3)].toArray := ⟨_, rfl⟩
  rw [← hargs] at hts hret ⊢
  have hown : s.vm.findClass RX2 = some m.cls := hown
  have hl : lv_has ls 3 [(0, .ref (ad 3))] := hl
  have hin_X2 : ∀ w ∈ wsX20, w ∈ wsX2_forget := fun _ h => List.mem_cons_of_mem _ (List.mem_append_right _ h)
  have fl_18 : (Cond.fieldLink RX2 18 "FoldedWays$Graph" "linkBetween" "[I").before args s = true := hat hts 3 rfl
  have fl_21 : (Cond.fieldLink RX2 21 "FoldedWays$Graph" "wayLength" "[I").before args s = true := hat hts 4 rfl
  have fl_24 : (Cond.fieldLink RX2 24 "FoldedWays$Graph" "wayNext" "[I").before args s = true := hat hts 5 rfl
  have fl_27 : (Cond.fieldLink RX2 27 "FoldedWays$Graph" "wayLinks" "[I").before args s = true := hat hts 6 rfl
  have fl_30 : (Cond.fieldLink RX2 30 "FoldedWays$Graph" "nodes" "I").before args s = true := hat hts 1 rfl
  have fl_34 : (Cond.fieldLink RX2 34 "FoldedWays$Graph" "links" "I").before args s = true := hat hts 2 rfl
  unfold f_X2_forget at hf
  refine lv_aload_n hx hb dX2_forget_0 rfl (lv_at hl 0 rfl) ?_
  refine lv_iconst (v := (0 : Int32)) hx hb dX2_forget_1 (by decide) ?_
  refine va_put (ci := 2) (v := .int (0 : Int32)) (ty := .int) (C := RX2) (T := TX2) (N := 8) hx hb hts hin_X2 tyX2 tyX2_ok nmX2 hown hK hP hD hS 0 rfl rfl 0 (by decide) fl_30 (fun _ h9 => h9) rfl (by decide +kernel) rfl rfl (Nat.le_of_ble_eq_true rfl) dX2_forget_2 (fun H locs hP hD hS => ?_)
  have hP : va_P D vwCl (wdG cI cJ ad (0 : Int32) gr_links gr_start gr_end gr_linkBetween gr_wayLength gr_wayNext gr_wayLinks) H := hP
  have hD : va_D A (wdG cI cJ ad (0 : Int32) gr_links gr_start gr_end gr_linkBetween gr_wayLength gr_wayNext gr_wayLinks) := hD
  refine lv_aload_n hx hb dX2_forget_5 rfl (lv_at hl 0 rfl) ?_
  refine lv_iconst (v := (0 : Int32)) hx hb dX2_forget_6 (by decide) ?_
  refine va_put (ci := 2) (v := .int (0 : Int32)) (ty := .int) (C := RX2) (T := TX2) (N := 8) hx hb hts hin_X2 tyX2 tyX2_ok nmX2 hown hK hP hD hS 0 rfl rfl 1 (by decide) fl_34 (fun _ h9 => h9) rfl (by decide +kernel) rfl rfl (Nat.le_of_ble_eq_true rfl) dX2_forget_7 (fun H locs hP hD hS => ?_)
  have hP : va_P D vwCl (wdG cI cJ ad (0 : Int32) (0 : Int32) gr_start gr_end gr_linkBetween gr_wayLength gr_wayNext gr_wayLinks) H := hP
  have hD : va_D A (wdG cI cJ ad (0 : Int32) (0 : Int32) gr_start gr_end gr_linkBetween gr_wayLength gr_wayNext gr_wayLinks) := hD
  refine lv_iconst (v := (0 : Int32)) hx hb dX2_forget_10 (by decide) ?_
  refine lv_istore_n (lv' := [(1, .int (0 : Int32)), (0, .ref (ad 3))]) hx hb dX2_forget_11 rfl hl (by decide) rfl (fun ls hl => ?_)
  have lp5 : ∀ (n : Nat) (gr_linkBetween_a12 : Nat → Int32) (gr_wayLength_a12 : Nat → Int32) (gr_wayNext_a12 : Nat → Int32) (gr_wayLinks_a12 : Nat → Int32) (x1_a12 : Int32) (gr_linkBetween_o1 : Nat → Int32) (gr_wayLength_o2 : Nat → Int32) (gr_wayNext_o3 : Nat → Int32) (gr_wayLinks_o4 : Nat → Int32), f_X2_forget_L12  n gr_linkBetween_a12 gr_wayLength_a12 gr_wayNext_a12 gr_wayLinks_a12 x1_a12 = some (gr_linkBetween_o1, gr_wayLength_o2, gr_wayNext_o3, gr_wayLinks_o4) → (∀ (H : Heap) (locs : List Loc) (ls : Array Slot), va_P D vwCl (wdG cI cJ ad (0 : Int32) (0 : Int32) gr_start gr_end gr_linkBetween_o1 gr_wayLength_o2 gr_wayNext_o3 gr_wayLinks_o4) H → va_D A (wdG cI cJ ad (0 : Int32) (0 : Int32) gr_start gr_end gr_linkBetween_o1 gr_wayLength_o2 gr_wayNext_o3 gr_wayLinks_o4) → va_S A s.heap H locs → lv_has ls 3 [] → W p l e rm_X2_forget s m args below meth c H locs 0 0 Q (F0 m 91 ls [])) → ∀ (H : Heap) (locs : List Loc) (ls : Array Slot), va_P D vwCl (wdG cI cJ ad (0 : Int32) (0 : Int32) gr_start gr_end gr_linkBetween_a12 gr_wayLength_a12 gr_wayNext_a12 gr_wayLinks_a12) H → va_D A (wdG cI cJ ad (0 : Int32) (0 : Int32) gr_start gr_end gr_linkBetween_a12 gr_wayLength_a12 gr_wayNext_a12 gr_wayLinks_a12) → va_S A s.heap H locs → lv_has ls 3 [(0, .ref (ad 3)), (1, .int x1_a12)] → W p l e rm_X2_forget s m args below meth c H locs 0 0 Q (F0 m 12 ls []) := by
    intro n
    induction n with
    | zero =>
      intro gr_linkBetween_a12 gr_wayLength_a12 gr_wayNext_a12 gr_wayLinks_a12 x1_a12 gr_linkBetween_o1 gr_wayLength_o2 gr_wayNext_o3 gr_wayLinks_o4 h0
      exact oo_n h0
    | succ n ih =>
      intro gr_linkBetween_a12 gr_wayLength_a12 gr_wayNext_a12 gr_wayLinks_a12 x1_a12 gr_linkBetween_o1 gr_wayLength_o2 gr_wayNext_o3 gr_wayLinks_o4 hf kk H locs ls hP hD hS hl
      rw [f_X2_forget_L12_s] at hf
      refine lv_iload_n hx hb dX2_forget_12 rfl (lv_at hl 1 rfl) ?_
      refine lv_bipush (v := (6 : Int32)) hx hb dX2_forget_13 (by decide) ?_
      refine lv_icmp_ge (tgt := 91) hx hb dX2_forget_15 (by decide) (fun c6 => ?_) (fun c6 => ?_)
      · have hf := oo_t hf c6
        cases hf
        exact kk _ _ _ hP hD hS (lv_sub hl [] rfl)
      · have hf := oo_f hf c6
        refine lv_iconst (v := (0 : Int32)) hx hb dX2_forget_18 (by decide) ?_
        refine lv_istore_n (lv' := [(2, .int (0 : Int32)), (0, .ref (ad 3)), (1, .int x1_a12)]) hx hb dX2_forget_19 rfl hl (by decide) rfl (fun ls hl => ?_)
        have lp11 : ∀ (n : Nat) (gr_linkBetween_a20 : Nat → Int32) (gr_wayLength_a20 : Nat → Int32) (gr_wayNext_a20 : Nat → Int32) (gr_wayLinks_a20 : Nat → Int32) (x2_a20 : Int32) (gr_linkBetween_o7 : Nat → Int32) (gr_wayLength_o8 : Nat → Int32) (gr_wayNext_o9 : Nat → Int32) (gr_wayLinks_o10 : Nat → Int32), f_X2_forget_L20 x1_a12 n gr_linkBetween_a20 gr_wayLength_a20 gr_wayNext_a20 gr_wayLinks_a20 x2_a20 = some (gr_linkBetween_o7, gr_wayLength_o8, gr_wayNext_o9, gr_wayLinks_o10) → (∀ (H : Heap) (locs : List Loc) (ls : Array Slot), va_P D vwCl (wdG cI cJ ad (0 : Int32) (0 : Int32) gr_start gr_end gr_linkBetween_o7 gr_wayLength_o8 gr_wayNext_o9 gr_wayLinks_o10) H → va_D A (wdG cI cJ ad (0 : Int32) (0 : Int32) gr_start gr_end gr_linkBetween_o7 gr_wayLength_o8 gr_wayNext_o9 gr_wayLinks_o10) → va_S A s.heap H locs → lv_has ls 3 [(0, .ref (ad 3)), (1, .int x1_a12)] → W p l e rm_X2_forget s m args below meth c H locs 0 0 Q (F0 m 85 ls [])) → ∀ (H : Heap) (locs : List Loc) (ls : Array Slot), va_P D vwCl (wdG cI cJ ad (0 : Int32) (0 : Int32) gr_start gr_end gr_linkBetween_a20 gr_wayLength_a20 gr_wayNext_a20 gr_wayLinks_a20) H → va_D A (wdG cI cJ ad (0 : Int32) (0 : Int32) gr_start gr_end gr_linkBetween_a20 gr_wayLength_a20 gr_wayNext_a20 gr_wayLinks_a20) → va_S A s.heap H locs → lv_has ls 3 [(0, .ref (ad 3)), (1, .int x1_a12), (2, .int x2_a20)] → W p l e rm_X2_forget s m args below meth c H locs 0 0 Q (F0 m 20 ls []) := by
          intro n
          induction n with
          | zero =>
            intro gr_linkBetween_a20 gr_wayLength_a20 gr_wayNext_a20 gr_wayLinks_a20 x2_a20 gr_linkBetween_o7 gr_wayLength_o8 gr_wayNext_o9 gr_wayLinks_o10 h0
            exact oo_n h0
          | succ n ih =>
            intro gr_linkBetween_a20 gr_wayLength_a20 gr_wayNext_a20 gr_wayLinks_a20 x2_a20 gr_linkBetween_o7 gr_wayLength_o8 gr_wayNext_o9 gr_wayLinks_o10 hf kk H locs ls hP hD hS hl
            rw [f_X2_forget_L20_s] at hf
            refine lv_iload_n hx hb dX2_forget_20 rfl (lv_at hl 2 rfl) ?_
            refine lv_bipush (v := (6 : Int32)) hx hb dX2_forget_21 (by decide) ?_
            refine lv_icmp_ge (tgt := 85) hx hb dX2_forget_23 (by decide) (fun c12 => ?_) (fun c12 => ?_)
            · have hf := oo_t hf c12
              cases hf
              exact kk _ _ _ hP hD hS (lv_sub hl [0, 1] rfl)
            · have hf := oo_f hf c12
              refine lv_aload_n hx hb dX2_forget_26 rfl (lv_at hl 0 rfl) ?_
              refine va_get (ci := 2) (v := .ref (ad 6)) (C := RX2) (T := TX2) (N := 8) hx hb hts hin_X2 hown hK hP 0 rfl rfl 4 (by decide) fl_18 (fun _ h9 => h9) rfl dX2_forget_27 ?_
              refine lv_iload_n hx hb dX2_forget_30 rfl (lv_at hl 1 rfl) ?_
              refine lv_iload_n hx hb dX2_forget_31 rfl (lv_at hl 2 rfl) ?_
              have F : Fr D A _ [] [] (wdG cI cJ ad (0 : Int32) (0 : Int32) gr_start gr_end gr_linkBetween_a20 gr_wayLength_a20 gr_wayNext_a20 gr_wayLinks_a20) := fr_nil hP hD hS hA
              refine kI F hS (rS (As := [.int x1_a12, .int x2_a20]) (rest := [.ref (ad 6)]) ⟨hx, hb, hml, hown, hts⟩ hK hN F (c_X2_at l D cI cJ ad _  x1_a12 x2_a20 (o_res := (f_X2_at x1_a12 x2_a20)) rfl) (cwS 2 hts gX2_forget_X2_at rfl rfl rfl (by decide +kernel) ⟨Nat.le_of_ble_eq_true rfl, Nat.le_of_ble_eq_true rfl⟩) rfl hl.1 rfl (Nat.le_of_ble_eq_true rfl) dX2_forget_32 ⟨Nat.zero_le _, Nat.zero_le _⟩) (fun H locs hP hD hS => ?_)
              refine lv_iconst (v := (-1 : Int32)) hx hb dX2_forget_35 (by decide) ?_
              obtain ⟨g14, hf⟩ := oo_g hf
              refine va_iast hx hb hK hP hD hS 3 0 rfl rfl g14 dX2_forget_36 (fun H locs hP hD hS => ?_)
              have hP : va_P D vwCl (wdG cI cJ ad (0 : Int32) (0 : Int32) gr_start gr_end (upd gr_linkBetween_a20 ((f_X2_at x1_a12 x2_a20)).toNatClampNeg (-1 : Int32)) gr_wayLength_a20 gr_wayNext_a20 gr_wayLinks_a20) H := hP
              have hD : va_D A (wdG cI cJ ad (0 : Int32) (0 : Int32) gr_start gr_end (upd gr_linkBetween_a20 ((f_X2_at x1_a12 x2_a20)).toNatClampNeg (-1 : Int32)) gr_wayLength_a20 gr_wayNext_a20 gr_wayLinks_a20) := hD
              refine lv_aload_n hx hb dX2_forget_37 rfl (lv_at hl 0 rfl) ?_
              refine va_get (ci := 2) (v := .ref (ad 7)) (C := RX2) (T := TX2) (N := 8) hx hb hts hin_X2 hown hK hP 0 rfl rfl 5 (by decide) fl_21 (fun _ h9 => h9) rfl dX2_forget_38 ?_
              refine lv_iload_n hx hb dX2_forget_41 rfl (lv_at hl 1 rfl) ?_
              refine lv_iload_n hx hb dX2_forget_42 rfl (lv_at hl 2 rfl) ?_
              have F : Fr D A _ [] [] (wdG cI cJ ad (0 : Int32) (0 : Int32) gr_start gr_end (upd gr_linkBetween_a20 ((f_X2_at x1_a12 x2_a20)).toNatClampNeg (-1 : Int32)) gr_wayLength_a20 gr_wayNext_a20 gr_wayLinks_a20) := fr_nil hP hD hS hA
              refine kI F hS (rS (As := [.int x1_a12, .int x2_a20]) (rest := [.ref (ad 7)]) ⟨hx, hb, hml, hown, hts⟩ hK hN F (c_X2_at l D cI cJ ad _  x1_a12 x2_a20 (o_res := (f_X2_at x1_a12 x2_a20)) rfl) (cwS 2 hts gX2_forget_X2_at rfl rfl rfl (by decide +kernel) ⟨Nat.le_of_ble_eq_true rfl, Nat.le_of_ble_eq_true rfl⟩) rfl hl.1 rfl (Nat.le_of_ble_eq_true rfl) dX2_forget_43 ⟨Nat.zero_le _, Nat.zero_le _⟩) (fun H locs hP hD hS => ?_)
              refine lv_iload_n hx hb dX2_forget_46 rfl (lv_at hl 1 rfl) ?_
              refine lv_iload_n hx hb dX2_forget_47 rfl (lv_at hl 2 rfl) ?_
              have kj17 : ∀ (k_16 : Int32), k_16 = (if x1_a12 = x2_a20 then (0 : Int32) else (-1 : Int32)) → ∀ (H : Heap) (locs : List Loc) (ls : Array Slot), va_P D vwCl (wdG cI cJ ad (0 : Int32) (0 : Int32) gr_start gr_end (upd gr_linkBetween_a20 ((f_X2_at x1_a12 x2_a20)).toNatClampNeg (-1 : Int32)) gr_wayLength_a20 gr_wayNext_a20 gr_wayLinks_a20) H → va_D A (wdG cI cJ ad (0 : Int32) (0 : Int32) gr_start gr_end (upd gr_linkBetween_a20 ((f_X2_at x1_a12 x2_a20)).toNatClampNeg (-1 : Int32)) gr_wayLength_a20 gr_wayNext_a20 gr_wayLinks_a20) → va_S A s.heap H locs → lv_has ls 3 [(0, .ref (ad 3)), (1, .int x1_a12), (2, .int x2_a20)] → W p l e rm_X2_forget s m args below meth c H locs 0 0 Q (F0 m 56 ls [.int k_16, .int (f_X2_at x1_a12 x2_a20), .ref (ad 7)]) := by
                intro k_16 ek_16
                subst ek_16
                intro H locs ls hP hD hS hl
                refine va_iast hx hb hK hP hD hS 4 0 rfl rfl g14 dX2_forget_56 (fun H locs hP hD hS => ?_)
                have hP : va_P D vwCl (wdG cI cJ ad (0 : Int32) (0 : Int32) gr_start gr_end (upd gr_linkBetween_a20 ((f_X2_at x1_a12 x2_a20)).toNatClampNeg (-1 : Int32)) (upd gr_wayLength_a20 ((f_X2_at x1_a12 x2_a20)).toNatClampNeg (if x1_a12 = x2_a20 then (0 : Int32) else (-1 : Int32))) gr_wayNext_a20 gr_wayLinks_a20) H := hP
                have hD : va_D A (wdG cI cJ ad (0 : Int32) (0 : Int32) gr_start gr_end (upd gr_linkBetween_a20 ((f_X2_at x1_a12 x2_a20)).toNatClampNeg (-1 : Int32)) (upd gr_wayLength_a20 ((f_X2_at x1_a12 x2_a20)).toNatClampNeg (if x1_a12 = x2_a20 then (0 : Int32) else (-1 : Int32))) gr_wayNext_a20 gr_wayLinks_a20) := hD
                refine lv_aload_n hx hb dX2_forget_57 rfl (lv_at hl 0 rfl) ?_
                refine va_get (ci := 2) (v := .ref (ad 8)) (C := RX2) (T := TX2) (N := 8) hx hb hts hin_X2 hown hK hP 0 rfl rfl 6 (by decide) fl_24 (fun _ h9 => h9) rfl dX2_forget_58 ?_
                refine lv_iload_n hx hb dX2_forget_61 rfl (lv_at hl 1 rfl) ?_
                refine lv_iload_n hx hb dX2_forget_62 rfl (lv_at hl 2 rfl) ?_
                have F : Fr D A _ [] [] (wdG cI cJ ad (0 : Int32) (0 : Int32) gr_start gr_end (upd gr_linkBetween_a20 ((f_X2_at x1_a12 x2_a20)).toNatClampNeg (-1 : Int32)) (upd gr_wayLength_a20 ((f_X2_at x1_a12 x2_a20)).toNatClampNeg (if x1_a12 = x2_a20 then (0 : Int32) else (-1 : Int32))) gr_wayNext_a20 gr_wayLinks_a20) := fr_nil hP hD hS hA
                refine kI F hS (rS (As := [.int x1_a12, .int x2_a20]) (rest := [.ref (ad 8)]) ⟨hx, hb, hml, hown, hts⟩ hK hN F (c_X2_at l D cI cJ ad _  x1_a12 x2_a20 (o_res := (f_X2_at x1_a12 x2_a20)) rfl) (cwS 2 hts gX2_forget_X2_at rfl rfl rfl (by decide +kernel) ⟨Nat.le_of_ble_eq_true rfl, Nat.le_of_ble_eq_true rfl⟩) rfl hl.1 rfl (Nat.le_of_ble_eq_true rfl) dX2_forget_63 ⟨Nat.zero_le _, Nat.zero_le _⟩) (fun H locs hP hD hS => ?_)
                refine lv_iconst (v := (-1 : Int32)) hx hb dX2_forget_66 (by decide) ?_
                refine va_iast hx hb hK hP hD hS 5 0 rfl rfl g14 dX2_forget_67 (fun H locs hP hD hS => ?_)
                have hP : va_P D vwCl (wdG cI cJ ad (0 : Int32) (0 : Int32) gr_start gr_end (upd gr_linkBetween_a20 ((f_X2_at x1_a12 x2_a20)).toNatClampNeg (-1 : Int32)) (upd gr_wayLength_a20 ((f_X2_at x1_a12 x2_a20)).toNatClampNeg (if x1_a12 = x2_a20 then (0 : Int32) else (-1 : Int32))) (upd gr_wayNext_a20 ((f_X2_at x1_a12 x2_a20)).toNatClampNeg (-1 : Int32)) gr_wayLinks_a20) H := hP
                have hD : va_D A (wdG cI cJ ad (0 : Int32) (0 : Int32) gr_start gr_end (upd gr_linkBetween_a20 ((f_X2_at x1_a12 x2_a20)).toNatClampNeg (-1 : Int32)) (upd gr_wayLength_a20 ((f_X2_at x1_a12 x2_a20)).toNatClampNeg (if x1_a12 = x2_a20 then (0 : Int32) else (-1 : Int32))) (upd gr_wayNext_a20 ((f_X2_at x1_a12 x2_a20)).toNatClampNeg (-1 : Int32)) gr_wayLinks_a20) := hD
                refine lv_aload_n hx hb dX2_forget_68 rfl (lv_at hl 0 rfl) ?_
                refine va_get (ci := 2) (v := .ref (ad 9)) (C := RX2) (T := TX2) (N := 8) hx hb hts hin_X2 hown hK hP 0 rfl rfl 7 (by decide) fl_27 (fun _ h9 => h9) rfl dX2_forget_69 ?_
                refine lv_iload_n hx hb dX2_forget_72 rfl (lv_at hl 1 rfl) ?_
                refine lv_iload_n hx hb dX2_forget_73 rfl (lv_at hl 2 rfl) ?_
                have F : Fr D A _ [] [] (wdG cI cJ ad (0 : Int32) (0 : Int32) gr_start gr_end (upd gr_linkBetween_a20 ((f_X2_at x1_a12 x2_a20)).toNatClampNeg (-1 : Int32)) (upd gr_wayLength_a20 ((f_X2_at x1_a12 x2_a20)).toNatClampNeg (if x1_a12 = x2_a20 then (0 : Int32) else (-1 : Int32))) (upd gr_wayNext_a20 ((f_X2_at x1_a12 x2_a20)).toNatClampNeg (-1 : Int32)) gr_wayLinks_a20) := fr_nil hP hD hS hA
                refine kI F hS (rS (As := [.int x1_a12, .int x2_a20]) (rest := [.ref (ad 9)]) ⟨hx, hb, hml, hown, hts⟩ hK hN F (c_X2_at l D cI cJ ad _  x1_a12 x2_a20 (o_res := (f_X2_at x1_a12 x2_a20)) rfl) (cwS 2 hts gX2_forget_X2_at rfl rfl rfl (by decide +kernel) ⟨Nat.le_of_ble_eq_true rfl, Nat.le_of_ble_eq_true rfl⟩) rfl hl.1 rfl (Nat.le_of_ble_eq_true rfl) dX2_forget_74 ⟨Nat.zero_le _, Nat.zero_le _⟩) (fun H locs hP hD hS => ?_)
                refine lv_iconst (v := (0 : Int32)) hx hb dX2_forget_77 (by decide) ?_
                refine va_iast hx hb hK hP hD hS 6 0 rfl rfl g14 dX2_forget_78 (fun H locs hP hD hS => ?_)
                have hP : va_P D vwCl (wdG cI cJ ad (0 : Int32) (0 : Int32) gr_start gr_end (upd gr_linkBetween_a20 ((f_X2_at x1_a12 x2_a20)).toNatClampNeg (-1 : Int32)) (upd gr_wayLength_a20 ((f_X2_at x1_a12 x2_a20)).toNatClampNeg (if x1_a12 = x2_a20 then (0 : Int32) else (-1 : Int32))) (upd gr_wayNext_a20 ((f_X2_at x1_a12 x2_a20)).toNatClampNeg (-1 : Int32)) (upd gr_wayLinks_a20 ((f_X2_at x1_a12 x2_a20)).toNatClampNeg (0 : Int32))) H := hP
                have hD : va_D A (wdG cI cJ ad (0 : Int32) (0 : Int32) gr_start gr_end (upd gr_linkBetween_a20 ((f_X2_at x1_a12 x2_a20)).toNatClampNeg (-1 : Int32)) (upd gr_wayLength_a20 ((f_X2_at x1_a12 x2_a20)).toNatClampNeg (if x1_a12 = x2_a20 then (0 : Int32) else (-1 : Int32))) (upd gr_wayNext_a20 ((f_X2_at x1_a12 x2_a20)).toNatClampNeg (-1 : Int32)) (upd gr_wayLinks_a20 ((f_X2_at x1_a12 x2_a20)).toNatClampNeg (0 : Int32))) := hD
                refine lv_iinc (v := (x2_a20 + (1 : Int32))) (lv' := [(2, .int (x2_a20 + (1 : Int32))), (0, .ref (ad 3)), (1, .int x1_a12)]) hx hb dX2_forget_79 hl (k := 2) rfl rfl (by decide) rfl (fun ls hl => ?_)
                refine lv_goto (tgt := 20) hx hb dX2_forget_82 (by decide) ?_
                exact ih (upd gr_linkBetween_a20 ((f_X2_at x1_a12 x2_a20)).toNatClampNeg (-1 : Int32)) (upd gr_wayLength_a20 ((f_X2_at x1_a12 x2_a20)).toNatClampNeg (if x1_a12 = x2_a20 then (0 : Int32) else (-1 : Int32))) (upd gr_wayNext_a20 ((f_X2_at x1_a12 x2_a20)).toNatClampNeg (-1 : Int32)) (upd gr_wayLinks_a20 ((f_X2_at x1_a12 x2_a20)).toNatClampNeg (0 : Int32)) (x2_a20 + (1 : Int32)) _ _ _ _ hf kk _ _ _ hP hD hS (lv_sub hl [1, 2, 0] rfl)
              refine lv_icmp_ne (tgt := 55) hx hb dX2_forget_48 (by decide) (fun c23 => ?_) (fun c23 => ?_)
              · refine lv_iconst (v := (-1 : Int32)) hx hb dX2_forget_55 (by decide) ?_
                exact kj17 (-1 : Int32) (if_neg c23).symm _ _ _ hP hD hS (lv_sub hl [0, 1, 2] rfl)
              · refine lv_iconst (v := (0 : Int32)) hx hb dX2_forget_51 (by decide) ?_
                refine lv_goto (tgt := 56) hx hb dX2_forget_52 (by decide) ?_
                exact kj17 (0 : Int32) (if_pos c23).symm _ _ _ hP hD hS (lv_sub hl [0, 1, 2] rfl)
        obtain ⟨⟨gr_linkBetween_o7, gr_wayLength_o8, gr_wayNext_o9, gr_wayLinks_o10⟩, h24, hf⟩ := oo_b hf
        try dsimp only at hf
        refine lp11  100 gr_linkBetween_a12 gr_wayLength_a12 gr_wayNext_a12 gr_wayLinks_a12 (0 : Int32) gr_linkBetween_o7 gr_wayLength_o8 gr_wayNext_o9 gr_wayLinks_o10 h24 (fun H locs ls hP hD hS hl => ?_) _ _ _ hP hD hS (lv_sub hl [1, 2, 0] rfl)
        refine lv_iinc (v := (x1_a12 + (1 : Int32))) (lv' := [(1, .int (x1_a12 + (1 : Int32))), (0, .ref (ad 3))]) hx hb dX2_forget_85 hl (k := 1) rfl rfl (by decide) rfl (fun ls hl => ?_)
        refine lv_goto (tgt := 12) hx hb dX2_forget_88 (by decide) ?_
        exact ih gr_linkBetween_o7 gr_wayLength_o8 gr_wayNext_o9 gr_wayLinks_o10 (x1_a12 + (1 : Int32)) _ _ _ _ hf kk _ _ _ hP hD hS (lv_sub hl [1, 0] rfl)
  obtain ⟨⟨gr_linkBetween_o1, gr_wayLength_o2, gr_wayNext_o3, gr_wayLinks_o4⟩, h25, hf⟩ := oo_b hf
  try dsimp only at hf
  refine lp5  100 gr_linkBetween gr_wayLength gr_wayNext gr_wayLinks (0 : Int32) gr_linkBetween_o1 gr_wayLength_o2 gr_wayNext_o3 gr_wayLinks_o4 h25 (fun H locs ls hP hD hS hl => ?_) _ _ _ hP hD hS (lv_sub hl [1, 0] rfl)
  cases hf
  exact hret _ _ _ _ dX2_forget_91 hP hD hS
def f_X4_codeAt (pg_codes : Nat → Int32) (pg_length : Int32) (x1 : Int32) : Option (Int32) :=
  if x1 < (0 : Int32) then
    some (0 : Int32)
  else
    if pg_length ≤ x1 then
      some (0 : Int32)
    else
      if x1 < 0 ∨ 25 ≤ (x1).toNatClampNeg then none else
      some (pg_codes (x1).toNatClampNeg)
abbrev rm_X4_codeAt : Room := { frames := 0, cells := 0, slots := 0, locals := 0 }
set_option maxHeartbeats 4000000 in
set_option maxRecDepth 100000 in
theorem c_X4_codeAt (l : Launch) (D : va_G) (cI cJ : ClassId) (ad : Nat → Nat) (sz : Nat) {pg_codes : Nat → Int32} {pg_length : Int32} (x1 : Int32) {o_res : Int32} (hf : f_X4_codeAt pg_codes pg_length x1 = some o_res) : CtI l yX4_codeAt wsX4_codeAt rm_X4_codeAt D cI cJ [.ref (ad 1), .int x1] (wdPg cI cJ ad pg_codes pg_length) sz o_res (wdPg cI cJ ad pg_codes pg_length) := by
  refine ctI_of (cc := cX4_codeAt) (maxL := 2) (by decide) rfl (Nat.le_of_ble_eq_true rfl) ?_
  intro p e s m below meth c Q A hx hb hml hown hts hK hN hA hret ls hl hP hD hS
  obtain ⟨args, hargs⟩ : ∃ a : Array Value, a = [.ref (ad 1), .int x1].toArray := ⟨_, rfl⟩
  rw [← hargs] at hts hret ⊢
  have hown : s.vm.findClass RX4 = some m.cls := hown
  have hl : lv_has ls 2 [(0, .ref (ad 1)), (1, .int x1)] := hl
  have hin_X4 : ∀ w ∈ wsX40, w ∈ wsX4_codeAt := fun _ h => List.mem_cons_of_mem _ (List.mem_append_right _ h)
  have fl_11 : (Cond.fieldLink RX4 11 "FoldedWays$Page" "codes" "[I").before args s = true := hat hts 2 rfl
  have fl_15 : (Cond.fieldLink RX4 15 "FoldedWays$Page" "length" "I").before args s = true := hat hts 1 rfl
  unfold f_X4_codeAt at hf
  refine lv_iload_n hx hb dX4_codeAt_0 rfl (lv_at hl 1 rfl) ?_
  refine lv_if_lt (tgt := 21) hx hb dX4_codeAt_1 (by decide) (fun c1 => ?_) (fun c1 => ?_)
  · have hf := oo_t hf c1
    refine lv_iconst (v := (0 : Int32)) hx hb dX4_codeAt_21 (by decide) ?_
    cases hf
    exact hret _ _ _ _ dX4_codeAt_22 hP hD hS
  · have hf := oo_f hf c1
    refine lv_iload_n hx hb dX4_codeAt_4 rfl (lv_at hl 1 rfl) ?_
    refine lv_aload_n hx hb dX4_codeAt_5 rfl (lv_at hl 0 rfl) ?_
    refine va_get (ci := 4) (v := .int pg_length) (C := RX4) (T := TX4) (N := 2) hx hb hts hin_X4 hown hK hP 0 rfl rfl 1 (by decide) fl_15 (fun _ h9 => h9) rfl dX4_codeAt_6 ?_
    refine lv_icmp_ge (tgt := 21) hx hb dX4_codeAt_9 (by decide) (fun c2 => ?_) (fun c2 => ?_)
    · have hf := oo_t hf c2
      refine lv_iconst (v := (0 : Int32)) hx hb dX4_codeAt_21 (by decide) ?_
      cases hf
      exact hret _ _ _ _ dX4_codeAt_22 hP hD hS
    · have hf := oo_f hf c2
      refine lv_aload_n hx hb dX4_codeAt_12 rfl (lv_at hl 0 rfl) ?_
      refine va_get (ci := 4) (v := .ref (ad 2)) (C := RX4) (T := TX4) (N := 2) hx hb hts hin_X4 hown hK hP 0 rfl rfl 0 (by decide) fl_11 (fun _ h9 => h9) rfl dX4_codeAt_13 ?_
      refine lv_iload_n hx hb dX4_codeAt_16 rfl (lv_at hl 1 rfl) ?_
      obtain ⟨g3, hf⟩ := oo_g hf
      refine va_iald hx hb hK hP 1 0 rfl rfl g3 dX4_codeAt_17 ?_
      refine lv_goto (tgt := 22) hx hb dX4_codeAt_18 (by decide) ?_
      cases hf
      exact hret _ _ _ _ dX4_codeAt_22 hP hD hS
def f_X4_digitAt (pg_codes : Nat → Int32) (pg_length : Int32) (x1 : Int32) : Option (Int32) :=
  Option.bind (f_X4_codeAt pg_codes pg_length x1) fun r2 =>
  some (r2 - (48 : Int32))
abbrev rm_X4_digitAt : Room := { frames := 1, cells := 0, slots := 0, locals := 21 }
set_option maxHeartbeats 4000000 in
set_option maxRecDepth 100000 in
theorem c_X4_digitAt (l : Launch) (D : va_G) (cI cJ : ClassId) (ad : Nat → Nat) (sz : Nat) {pg_codes : Nat → Int32} {pg_length : Int32} (x1 : Int32) {o_res : Int32} (hf : f_X4_digitAt pg_codes pg_length x1 = some o_res) : CtI l yX4_digitAt wsX4_digitAt rm_X4_digitAt D cI cJ [.ref (ad 1), .int x1] (wdPg cI cJ ad pg_codes pg_length) sz o_res (wdPg cI cJ ad pg_codes pg_length) := by
  refine ctI_of (cc := cX4_digitAt) (maxL := 2) (by decide) rfl (Nat.le_of_ble_eq_true rfl) ?_
  intro p e s m below meth c Q A hx hb hml hown hts hK hN hA hret ls hl hP hD hS
  obtain ⟨args, hargs⟩ : ∃ a : Array Value, a = [.ref (ad 1), .int x1].toArray := ⟨_, rfl⟩
  rw [← hargs] at hts hret ⊢
  have hown : s.vm.findClass RX4 = some m.cls := hown
  have hl : lv_has ls 2 [(0, .ref (ad 1)), (1, .int x1)] := hl
  unfold f_X4_digitAt at hf
  refine lv_aload_n hx hb dX4_digitAt_0 rfl (lv_at hl 0 rfl) ?_
  refine lv_iload_n hx hb dX4_digitAt_1 rfl (lv_at hl 1 rfl) ?_
  obtain ⟨r2, h1, hf⟩ := oo_b hf
  try dsimp only at hf
  have F : Fr D A _ (wdPg cI cJ ad pg_codes pg_length) (wdPg cI cJ ad pg_codes pg_length) (wdPg cI cJ ad pg_codes pg_length) := fr_self hP hD hS hA
  refine kI F hS (rV (q := (RX4, TX4, 2)) (As := [.int x1]) (rest := []) ⟨hx, hb, hml, hown, hts⟩ hK hN F (c_X4_codeAt l D cI cJ ad _ (pg_codes := pg_codes) (pg_length := pg_length) x1 (o_res := r2) h1) (cwV 1 hts gX4_digitAt_X4_codeAt rfl rfl rfl (by decide +kernel) ⟨Nat.le_of_ble_eq_true rfl, Nat.le_of_ble_eq_true rfl⟩) (ci := 4) rfl rfl rfl hl.1 rfl (Nat.le_of_ble_eq_true rfl) dX4_digitAt_2 ⟨Nat.zero_le _, Nat.zero_le _⟩) (fun H locs hP hD hS => ?_)
  refine lv_bipush (v := (48 : Int32)) hx hb dX4_digitAt_5 (by decide) ?_
  refine lv_isub hx hb dX4_digitAt_7 ?_
  cases hf
  exact hret _ _ _ _ dX4_digitAt_8 hP hD hS
def f_X4_pairCount (pg_length : Int32) : Int32 :=
  ((pg_length - (1 : Int32)) / (3 : Int32))
abbrev rm_X4_pairCount : Room := { frames := 0, cells := 0, slots := 0, locals := 0 }
set_option maxHeartbeats 4000000 in
set_option maxRecDepth 100000 in
theorem c_X4_pairCount (l : Launch) (D : va_G) (cI cJ : ClassId) (ad : Nat → Nat) (sz : Nat) {pg_codes : Nat → Int32} {pg_length : Int32}  {o_res : Int32} (hf : f_X4_pairCount pg_length = o_res) : CtI l yX4_pairCount wsX4_pairCount rm_X4_pairCount D cI cJ [.ref (ad 1)] (wdPg cI cJ ad pg_codes pg_length) sz o_res (wdPg cI cJ ad pg_codes pg_length) := by
  refine ctI_of (cc := cX4_pairCount) (maxL := 1) (by decide) rfl (Nat.le_of_ble_eq_true rfl) ?_
  intro p e s m below meth c Q A hx hb hml hown hts hK hN hA hret ls hl hP hD hS
  obtain ⟨args, hargs⟩ : ∃ a : Array Value, a = [.ref (ad 1)].toArray := ⟨_, rfl⟩
  rw [← hargs] at hts hret ⊢
  have hown : s.vm.findClass RX4 = some m.cls := hown
  have hl : lv_has ls 1 [(0, .ref (ad 1))] := hl
  have hin_X4 : ∀ w ∈ wsX40, w ∈ wsX4_pairCount := fun _ h => List.mem_cons_of_mem _ (List.mem_append_right _ h)
  have fl_15 : (Cond.fieldLink RX4 15 "FoldedWays$Page" "length" "I").before args s = true := hat hts 1 rfl
  unfold f_X4_pairCount at hf
  refine lv_aload_n hx hb dX4_pairCount_0 rfl (lv_at hl 0 rfl) ?_
  refine va_get (ci := 4) (v := .int pg_length) (C := RX4) (T := TX4) (N := 2) hx hb hts hin_X4 hown hK hP 0 rfl rfl 1 (by decide) fl_15 (fun _ h9 => h9) rfl dX4_pairCount_1 ?_
  refine lv_iconst (v := (1 : Int32)) hx hb dX4_pairCount_4 (by decide) ?_
  refine lv_isub hx hb dX4_pairCount_5 ?_
  refine lv_iconst (v := (3 : Int32)) hx hb dX4_pairCount_6 (by decide) ?_
  refine lv_idiv hx hb dX4_pairCount_7 (by decide) ?_
  cases hf
  exact hret _ _ _ _ dX4_pairCount_8 hP hD hS
def f_X4_firstOfPair (pg_codes : Nat → Int32) (pg_length : Int32) (x1 : Int32) : Option (Int32) :=
  Option.bind (f_X4_digitAt pg_codes pg_length (((3 : Int32) * x1) + (2 : Int32))) fun r2 =>
  some r2
abbrev rm_X4_firstOfPair : Room := { frames := 2, cells := 0, slots := 0, locals := 42 }
set_option maxHeartbeats 4000000 in
set_option maxRecDepth 100000 in
theorem c_X4_firstOfPair (l : Launch) (D : va_G) (cI cJ : ClassId) (ad : Nat → Nat) (sz : Nat) {pg_codes : Nat → Int32} {pg_length : Int32} (x1 : Int32) {o_res : Int32} (hf : f_X4_firstOfPair pg_codes pg_length x1 = some o_res) : CtI l yX4_firstOfPair wsX4_firstOfPair rm_X4_firstOfPair D cI cJ [.ref (ad 1), .int x1] (wdPg cI cJ ad pg_codes pg_length) sz o_res (wdPg cI cJ ad pg_codes pg_length) := by
  refine ctI_of (cc := cX4_firstOfPair) (maxL := 2) (by decide) rfl (Nat.le_of_ble_eq_true rfl) ?_
  intro p e s m below meth c Q A hx hb hml hown hts hK hN hA hret ls hl hP hD hS
  obtain ⟨args, hargs⟩ : ∃ a : Array Value, a = [.ref (ad 1), .int x1].toArray := ⟨_, rfl⟩
  rw [← hargs] at hts hret ⊢
  have hown : s.vm.findClass RX4 = some m.cls := hown
  have hl : lv_has ls 2 [(0, .ref (ad 1)), (1, .int x1)] := hl
  unfold f_X4_firstOfPair at hf
  refine lv_aload_n hx hb dX4_firstOfPair_0 rfl (lv_at hl 0 rfl) ?_
  refine lv_iconst (v := (3 : Int32)) hx hb dX4_firstOfPair_1 (by decide) ?_
  refine lv_iload_n hx hb dX4_firstOfPair_2 rfl (lv_at hl 1 rfl) ?_
  refine lv_imul hx hb dX4_firstOfPair_3 ?_
  refine lv_iconst (v := (2 : Int32)) hx hb dX4_firstOfPair_4 (by decide) ?_
  refine lv_iadd hx hb dX4_firstOfPair_5 ?_
  obtain ⟨r2, h1, hf⟩ := oo_b hf
  try dsimp only at hf
  have F : Fr D A _ (wdPg cI cJ ad pg_codes pg_length) (wdPg cI cJ ad pg_codes pg_length) (wdPg cI cJ ad pg_codes pg_length) := fr_self hP hD hS hA
  refine kI F hS (rV (q := (RX4, TX4, 2)) (As := [.int (((3 : Int32) * x1) + (2 : Int32))]) (rest := []) ⟨hx, hb, hml, hown, hts⟩ hK hN F (c_X4_digitAt l D cI cJ ad _ (pg_codes := pg_codes) (pg_length := pg_length) (((3 : Int32) * x1) + (2 : Int32)) (o_res := r2) h1) (cwV 1 hts gX4_firstOfPair_X4_digitAt rfl rfl rfl (by decide +kernel) ⟨Nat.le_of_ble_eq_true rfl, Nat.le_of_ble_eq_true rfl⟩) (ci := 4) rfl rfl rfl hl.1 rfl (Nat.le_of_ble_eq_true rfl) dX4_firstOfPair_6 ⟨Nat.zero_le _, Nat.zero_le _⟩) (fun H locs hP hD hS => ?_)
  cases hf
  exact hret _ _ _ _ dX4_firstOfPair_9 hP hD hS
def f_X4_secondOfPair (pg_codes : Nat → Int32) (pg_length : Int32) (x1 : Int32) : Option (Int32) :=
  Option.bind (f_X4_digitAt pg_codes pg_length (((3 : Int32) * x1) + (3 : Int32))) fun r2 =>
  some r2
abbrev rm_X4_secondOfPair : Room := { frames := 2, cells := 0, slots := 0, locals := 42 }
set_option maxHeartbeats 4000000 in
set_option maxRecDepth 100000 in
theorem c_X4_secondOfPair (l : Launch) (D : va_G) (cI cJ : ClassId) (ad : Nat → Nat) (sz : Nat) {pg_codes : Nat → Int32} {pg_length : Int32} (x1 : Int32) {o_res : Int32} (hf : f_X4_secondOfPair pg_codes pg_length x1 = some o_res) : CtI l yX4_secondOfPair wsX4_secondOfPair rm_X4_secondOfPair D cI cJ [.ref (ad 1), .int x1] (wdPg cI cJ ad pg_codes pg_length) sz o_res (wdPg cI cJ ad pg_codes pg_length) := by
  refine ctI_of (cc := cX4_secondOfPair) (maxL := 2) (by decide) rfl (Nat.le_of_ble_eq_true rfl) ?_
  intro p e s m below meth c Q A hx hb hml hown hts hK hN hA hret ls hl hP hD hS
  obtain ⟨args, hargs⟩ : ∃ a : Array Value, a = [.ref (ad 1), .int x1].toArray := ⟨_, rfl⟩
  rw [← hargs] at hts hret ⊢
  have hown : s.vm.findClass RX4 = some m.cls := hown
  have hl : lv_has ls 2 [(0, .ref (ad 1)), (1, .int x1)] := hl
  unfold f_X4_secondOfPair at hf
  refine lv_aload_n hx hb dX4_secondOfPair_0 rfl (lv_at hl 0 rfl) ?_
  refine lv_iconst (v := (3 : Int32)) hx hb dX4_secondOfPair_1 (by decide) ?_
  refine lv_iload_n hx hb dX4_secondOfPair_2 rfl (lv_at hl 1 rfl) ?_
  refine lv_imul hx hb dX4_secondOfPair_3 ?_
  refine lv_iconst (v := (3 : Int32)) hx hb dX4_secondOfPair_4 (by decide) ?_
  refine lv_iadd hx hb dX4_secondOfPair_5 ?_
  obtain ⟨r2, h1, hf⟩ := oo_b hf
  try dsimp only at hf
  have F : Fr D A _ (wdPg cI cJ ad pg_codes pg_length) (wdPg cI cJ ad pg_codes pg_length) (wdPg cI cJ ad pg_codes pg_length) := fr_self hP hD hS hA
  refine kI F hS (rV (q := (RX4, TX4, 2)) (As := [.int (((3 : Int32) * x1) + (3 : Int32))]) (rest := []) ⟨hx, hb, hml, hown, hts⟩ hK hN F (c_X4_digitAt l D cI cJ ad _ (pg_codes := pg_codes) (pg_length := pg_length) (((3 : Int32) * x1) + (3 : Int32)) (o_res := r2) h1) (cwV 1 hts gX4_secondOfPair_X4_digitAt rfl rfl rfl (by decide +kernel) ⟨Nat.le_of_ble_eq_true rfl, Nat.le_of_ble_eq_true rfl⟩) (ci := 4) rfl rfl rfl hl.1 rfl (Nat.le_of_ble_eq_true rfl) dX4_secondOfPair_6 ⟨Nat.zero_le _, Nat.zero_le _⟩) (fun H locs hP hD hS => ?_)
  cases hf
  exact hret _ _ _ _ dX4_secondOfPair_9 hP hD hS
def f_X2_addLink (gr_nodes : Int32) (gr_links : Int32) (gr_start : Nat → Int32) (gr_end : Nat → Int32) (gr_linkBetween : Nat → Int32) (x1 : Int32) (x2 : Int32) : Option (Int32 × (Nat → Int32) × (Nat → Int32) × (Nat → Int32)) :=
  if (16 : Int32) ≤ gr_links then
    some (gr_links, gr_start, gr_end, gr_linkBetween)
  else
    if (f_X2_hasNode gr_nodes x1) = (0 : Int32) then
      some (gr_links, gr_start, gr_end, gr_linkBetween)
    else
      if (f_X2_hasNode gr_nodes x2) = (0 : Int32) then
        some (gr_links, gr_start, gr_end, gr_linkBetween)
      else
        if gr_links < 0 ∨ 16 ≤ (gr_links).toNatClampNeg then none else
        if (f_X2_at x1 x2) < 0 ∨ 36 ≤ ((f_X2_at x1 x2)).toNatClampNeg then none else
        some ((gr_links + (1 : Int32)), (upd gr_start (gr_links).toNatClampNeg x1), (upd gr_end (gr_links).toNatClampNeg x2), (upd gr_linkBetween ((f_X2_at x1 x2)).toNatClampNeg gr_links))
abbrev rm_X2_addLink : Room := { frames := 1, cells := 0, slots := 0, locals := 21 }
set_option maxHeartbeats 4000000 in
set_option maxRecDepth 100000 in
theorem c_X2_addLink (l : Launch) (D : va_G) (cI cJ : ClassId) (ad : Nat → Nat) (sz : Nat) {gr_nodes gr_links : Int32} {gr_start gr_end gr_linkBetween gr_wayLength gr_wayNext gr_wayLinks : Nat → Int32} (x1 : Int32) (x2 : Int32) {o_gr_links : Int32} {o_gr_start : Nat → Int32} {o_gr_end : Nat → Int32} {o_gr_linkBetween : Nat → Int32} (hf : f_X2_addLink gr_nodes gr_links gr_start gr_end gr_linkBetween x1 x2 = some (o_gr_links, o_gr_start, o_gr_end, o_gr_linkBetween)) : CtV l yX2_addLink wsX2_addLink rm_X2_addLink D cI cJ [.ref (ad 3), .int x1, .int x2] (wdG cI cJ ad gr_nodes gr_links gr_start gr_end gr_linkBetween gr_wayLength gr_wayNext gr_wayLinks) sz (wdG cI cJ ad gr_nodes o_gr_links o_gr_start o_gr_end o_gr_linkBetween gr_wayLength gr_wayNext gr_wayLinks) := by
  refine ctV_of (cc := cX2_addLink) (maxL := 3) (by decide) rfl (Nat.le_of_ble_eq_true rfl) ?_
  intro p e s m below meth c Q A hx hb hml hown hts hK hN hA hret ls hl hP hD hS
  obtain ⟨args, hargs⟩ : ∃ a : Array Value, a = [.ref (ad 3), .int x1, .int x2].toArray := ⟨_, rfl⟩
  rw [← hargs] at hts hret ⊢
  have hown : s.vm.findClass RX2 = some m.cls := hown
  have hl : lv_has ls 3 [(0, .ref (ad 3)), (1, .int x1), (2, .int x2)] := hl
  have hin_X2 : ∀ w ∈ wsX20, w ∈ wsX2_addLink := fun _ h => List.mem_cons_of_mem _ (List.mem_append_right _ h)
  have fl_9 : (Cond.fieldLink RX2 9 "FoldedWays$Graph" "start" "[I").before args s = true := hat hts 2 rfl
  have fl_15 : (Cond.fieldLink RX2 15 "FoldedWays$Graph" "end" "[I").before args s = true := hat hts 3 rfl
  have fl_18 : (Cond.fieldLink RX2 18 "FoldedWays$Graph" "linkBetween" "[I").before args s = true := hat hts 4 rfl
  have fl_34 : (Cond.fieldLink RX2 34 "FoldedWays$Graph" "links" "I").before args s = true := hat hts 1 rfl
  unfold f_X2_addLink at hf
  refine lv_aload_n hx hb dX2_addLink_0 rfl (lv_at hl 0 rfl) ?_
  refine va_get (ci := 2) (v := .int gr_links) (C := RX2) (T := TX2) (N := 8) hx hb hts hin_X2 hown hK hP 0 rfl rfl 1 (by decide) fl_34 (fun _ h9 => h9) rfl dX2_addLink_1 ?_
  refine lv_bipush (v := (16 : Int32)) hx hb dX2_addLink_4 (by decide) ?_
  refine lv_icmp_ge (tgt := 69) hx hb dX2_addLink_6 (by decide) (fun c1 => ?_) (fun c1 => ?_)
  · have hf := oo_t hf c1
    cases hf
    exact hret _ _ _ _ dX2_addLink_69 hP hD hS
  · have hf := oo_f hf c1
    refine lv_aload_n hx hb dX2_addLink_9 rfl (lv_at hl 0 rfl) ?_
    refine lv_iload_n hx hb dX2_addLink_10 rfl (lv_at hl 1 rfl) ?_
    have F : Fr D A _ (wdG cI cJ ad gr_nodes gr_links gr_start gr_end gr_linkBetween gr_wayLength gr_wayNext gr_wayLinks) (wdG cI cJ ad gr_nodes gr_links gr_start gr_end gr_linkBetween gr_wayLength gr_wayNext gr_wayLinks) (wdG cI cJ ad gr_nodes gr_links gr_start gr_end gr_linkBetween gr_wayLength gr_wayNext gr_wayLinks) := fr_self hP hD hS hA
    refine kZ F hS (rV (q := (RX2, TX2, 8)) (As := [.int x1]) (rest := []) ⟨hx, hb, hml, hown, hts⟩ hK hN F (c_X2_hasNode l D cI cJ ad _ (gr_nodes := gr_nodes) (gr_links := gr_links) (gr_start := gr_start) (gr_end := gr_end) (gr_linkBetween := gr_linkBetween) (gr_wayLength := gr_wayLength) (gr_wayNext := gr_wayNext) (gr_wayLinks := gr_wayLinks) x1 (o_res := (f_X2_hasNode gr_nodes x1)) rfl) (cwV 1 hts gX2_addLink_X2_hasNode rfl rfl rfl (by decide +kernel) ⟨Nat.le_of_ble_eq_true rfl, Nat.le_of_ble_eq_true rfl⟩) (ci := 2) rfl rfl rfl hl.1 rfl (Nat.le_of_ble_eq_true rfl) dX2_addLink_11 ⟨Nat.zero_le _, Nat.zero_le _⟩) (fun H locs hb2 hP hD hS => ?_)
    refine lv_if_eq (tgt := 69) hx hb dX2_addLink_14 (by decide) (fun c3 => ?_) (fun c3 => ?_)
    · have hf := oo_t hf c3
      cases hf
      exact hret _ _ _ _ dX2_addLink_69 hP hD hS
    · have hf := oo_f hf c3
      refine lv_aload_n hx hb dX2_addLink_17 rfl (lv_at hl 0 rfl) ?_
      refine lv_iload_n hx hb dX2_addLink_18 rfl (lv_at hl 2 rfl) ?_
      have F : Fr D A _ (wdG cI cJ ad gr_nodes gr_links gr_start gr_end gr_linkBetween gr_wayLength gr_wayNext gr_wayLinks) (wdG cI cJ ad gr_nodes gr_links gr_start gr_end gr_linkBetween gr_wayLength gr_wayNext gr_wayLinks) (wdG cI cJ ad gr_nodes gr_links gr_start gr_end gr_linkBetween gr_wayLength gr_wayNext gr_wayLinks) := fr_self hP hD hS hA
      refine kZ F hS (rV (q := (RX2, TX2, 8)) (As := [.int x2]) (rest := []) ⟨hx, hb, hml, hown, hts⟩ hK hN F (c_X2_hasNode l D cI cJ ad _ (gr_nodes := gr_nodes) (gr_links := gr_links) (gr_start := gr_start) (gr_end := gr_end) (gr_linkBetween := gr_linkBetween) (gr_wayLength := gr_wayLength) (gr_wayNext := gr_wayNext) (gr_wayLinks := gr_wayLinks) x2 (o_res := (f_X2_hasNode gr_nodes x2)) rfl) (cwV 1 hts gX2_addLink_X2_hasNode rfl rfl rfl (by decide +kernel) ⟨Nat.le_of_ble_eq_true rfl, Nat.le_of_ble_eq_true rfl⟩) (ci := 2) rfl rfl rfl hl.1 rfl (Nat.le_of_ble_eq_true rfl) dX2_addLink_19 ⟨Nat.zero_le _, Nat.zero_le _⟩) (fun H locs hb4 hP hD hS => ?_)
      refine lv_if_eq (tgt := 69) hx hb dX2_addLink_22 (by decide) (fun c5 => ?_) (fun c5 => ?_)
      · have hf := oo_t hf c5
        cases hf
        exact hret _ _ _ _ dX2_addLink_69 hP hD hS
      · have hf := oo_f hf c5
        refine lv_aload_n hx hb dX2_addLink_25 rfl (lv_at hl 0 rfl) ?_
        refine va_get (ci := 2) (v := .ref (ad 4)) (C := RX2) (T := TX2) (N := 8) hx hb hts hin_X2 hown hK hP 0 rfl rfl 2 (by decide) fl_9 (fun _ h9 => h9) rfl dX2_addLink_26 ?_
        refine lv_aload_n hx hb dX2_addLink_29 rfl (lv_at hl 0 rfl) ?_
        refine va_get (ci := 2) (v := .int gr_links) (C := RX2) (T := TX2) (N := 8) hx hb hts hin_X2 hown hK hP 0 rfl rfl 1 (by decide) fl_34 (fun _ h9 => h9) rfl dX2_addLink_30 ?_
        refine lv_iload_n hx hb dX2_addLink_33 rfl (lv_at hl 1 rfl) ?_
        obtain ⟨g6, hf⟩ := oo_g hf
        refine va_iast hx hb hK hP hD hS 1 0 rfl rfl g6 dX2_addLink_34 (fun H locs hP hD hS => ?_)
        have hP : va_P D vwCl (wdG cI cJ ad gr_nodes gr_links (upd gr_start (gr_links).toNatClampNeg x1) gr_end gr_linkBetween gr_wayLength gr_wayNext gr_wayLinks) H := hP
        have hD : va_D A (wdG cI cJ ad gr_nodes gr_links (upd gr_start (gr_links).toNatClampNeg x1) gr_end gr_linkBetween gr_wayLength gr_wayNext gr_wayLinks) := hD
        refine lv_aload_n hx hb dX2_addLink_35 rfl (lv_at hl 0 rfl) ?_
        refine va_get (ci := 2) (v := .ref (ad 5)) (C := RX2) (T := TX2) (N := 8) hx hb hts hin_X2 hown hK hP 0 rfl rfl 3 (by decide) fl_15 (fun _ h9 => h9) rfl dX2_addLink_36 ?_
        refine lv_aload_n hx hb dX2_addLink_39 rfl (lv_at hl 0 rfl) ?_
        refine va_get (ci := 2) (v := .int gr_links) (C := RX2) (T := TX2) (N := 8) hx hb hts hin_X2 hown hK hP 0 rfl rfl 1 (by decide) fl_34 (fun _ h9 => h9) rfl dX2_addLink_40 ?_
        refine lv_iload_n hx hb dX2_addLink_43 rfl (lv_at hl 2 rfl) ?_
        refine va_iast hx hb hK hP hD hS 2 0 rfl rfl g6 dX2_addLink_44 (fun H locs hP hD hS => ?_)
        have hP : va_P D vwCl (wdG cI cJ ad gr_nodes gr_links (upd gr_start (gr_links).toNatClampNeg x1) (upd gr_end (gr_links).toNatClampNeg x2) gr_linkBetween gr_wayLength gr_wayNext gr_wayLinks) H := hP
        have hD : va_D A (wdG cI cJ ad gr_nodes gr_links (upd gr_start (gr_links).toNatClampNeg x1) (upd gr_end (gr_links).toNatClampNeg x2) gr_linkBetween gr_wayLength gr_wayNext gr_wayLinks) := hD
        refine lv_aload_n hx hb dX2_addLink_45 rfl (lv_at hl 0 rfl) ?_
        refine va_get (ci := 2) (v := .ref (ad 6)) (C := RX2) (T := TX2) (N := 8) hx hb hts hin_X2 hown hK hP 0 rfl rfl 4 (by decide) fl_18 (fun _ h9 => h9) rfl dX2_addLink_46 ?_
        refine lv_iload_n hx hb dX2_addLink_49 rfl (lv_at hl 1 rfl) ?_
        refine lv_iload_n hx hb dX2_addLink_50 rfl (lv_at hl 2 rfl) ?_
        have F : Fr D A _ [] [] (wdG cI cJ ad gr_nodes gr_links (upd gr_start (gr_links).toNatClampNeg x1) (upd gr_end (gr_links).toNatClampNeg x2) gr_linkBetween gr_wayLength gr_wayNext gr_wayLinks) := fr_nil hP hD hS hA
        refine kI F hS (rS (As := [.int x1, .int x2]) (rest := [.ref (ad 6)]) ⟨hx, hb, hml, hown, hts⟩ hK hN F (c_X2_at l D cI cJ ad _  x1 x2 (o_res := (f_X2_at x1 x2)) rfl) (cwS 2 hts gX2_addLink_X2_at rfl rfl rfl (by decide +kernel) ⟨Nat.le_of_ble_eq_true rfl, Nat.le_of_ble_eq_true rfl⟩) rfl hl.1 rfl (Nat.le_of_ble_eq_true rfl) dX2_addLink_51 ⟨Nat.zero_le _, Nat.zero_le _⟩) (fun H locs hP hD hS => ?_)
        refine lv_aload_n hx hb dX2_addLink_54 rfl (lv_at hl 0 rfl) ?_
        refine va_get (ci := 2) (v := .int gr_links) (C := RX2) (T := TX2) (N := 8) hx hb hts hin_X2 hown hK hP 0 rfl rfl 1 (by decide) fl_34 (fun _ h9 => h9) rfl dX2_addLink_55 ?_
        obtain ⟨g9, hf⟩ := oo_g hf
        refine va_iast hx hb hK hP hD hS 3 0 rfl rfl g9 dX2_addLink_58 (fun H locs hP hD hS => ?_)
        have hP : va_P D vwCl (wdG cI cJ ad gr_nodes gr_links (upd gr_start (gr_links).toNatClampNeg x1) (upd gr_end (gr_links).toNatClampNeg x2) (upd gr_linkBetween ((f_X2_at x1 x2)).toNatClampNeg gr_links) gr_wayLength gr_wayNext gr_wayLinks) H := hP
        have hD : va_D A (wdG cI cJ ad gr_nodes gr_links (upd gr_start (gr_links).toNatClampNeg x1) (upd gr_end (gr_links).toNatClampNeg x2) (upd gr_linkBetween ((f_X2_at x1 x2)).toNatClampNeg gr_links) gr_wayLength gr_wayNext gr_wayLinks) := hD
        refine lv_aload_n hx hb dX2_addLink_59 rfl (lv_at hl 0 rfl) ?_
        refine lv_dup hx hb dX2_addLink_60 rfl ?_
        refine va_get (ci := 2) (v := .int gr_links) (C := RX2) (T := TX2) (N := 8) hx hb hts hin_X2 hown hK hP 0 rfl rfl 1 (by decide) fl_34 (fun _ h9 => h9) rfl dX2_addLink_61 ?_
        refine lv_iconst (v := (1 : Int32)) hx hb dX2_addLink_64 (by decide) ?_
        refine lv_iadd hx hb dX2_addLink_65 ?_
        refine va_put (ci := 2) (v := .int (gr_links + (1 : Int32))) (ty := .int) (C := RX2) (T := TX2) (N := 8) hx hb hts hin_X2 tyX2 tyX2_ok nmX2 hown hK hP hD hS 0 rfl rfl 1 (by decide) fl_34 (fun _ h9 => h9) rfl (by decide +kernel) rfl rfl (Nat.le_of_ble_eq_true rfl) dX2_addLink_66 (fun H locs hP hD hS => ?_)
        have hP : va_P D vwCl (wdG cI cJ ad gr_nodes (gr_links + (1 : Int32)) (upd gr_start (gr_links).toNatClampNeg x1) (upd gr_end (gr_links).toNatClampNeg x2) (upd gr_linkBetween ((f_X2_at x1 x2)).toNatClampNeg gr_links) gr_wayLength gr_wayNext gr_wayLinks) H := hP
        have hD : va_D A (wdG cI cJ ad gr_nodes (gr_links + (1 : Int32)) (upd gr_start (gr_links).toNatClampNeg x1) (upd gr_end (gr_links).toNatClampNeg x2) (upd gr_linkBetween ((f_X2_at x1 x2)).toNatClampNeg gr_links) gr_wayLength gr_wayNext gr_wayLinks) := hD
        cases hf
        exact hret _ _ _ _ dX2_addLink_69 hP hD hS
def f_X2_findWay_L3 (gr_nodes : Int32) (gr_linkBetween : Nat → Int32) (x1 : Int32) (x2 : Int32) (x3 : Int32) : Nat → (Nat → Int32) → (Nat → Int32) → (Nat → Int32) → Int32 → Option (((Nat → Int32) × (Nat → Int32) × (Nat → Int32)) ⊕ ((Nat → Int32) × (Nat → Int32) × (Nat → Int32)))
  | 0, _, _, _, _ => none
  | n + 1, gr_wayLength_a3, gr_wayNext_a3, gr_wayLinks_a3, x4_a3 =>
      if gr_nodes ≤ x4_a3 then
        some (.inr (gr_wayLength_a3, gr_wayNext_a3, gr_wayLinks_a3))
      else
        if (f_X2_at x1 x4_a3) < 0 ∨ 36 ≤ ((f_X2_at x1 x4_a3)).toNatClampNeg then none else
        if (gr_linkBetween ((f_X2_at x1 x4_a3)).toNatClampNeg) = (-1 : Int32) then
          f_X2_findWay_L3 gr_nodes gr_linkBetween x1 x2 x3 n gr_wayLength_a3 gr_wayNext_a3 gr_wayLinks_a3 (x4_a3 + (1 : Int32))
        else
          if (f_X2_at x4_a3 x2) < 0 ∨ 36 ≤ ((f_X2_at x4_a3 x2)).toNatClampNeg then none else
          if (gr_wayLength_a3 ((f_X2_at x4_a3 x2)).toNatClampNeg) = (x3 - (1 : Int32)) then
            if (f_X2_at x1 x2) < 0 ∨ 36 ≤ ((f_X2_at x1 x2)).toNatClampNeg then none else
            some (.inl ((upd gr_wayLength_a3 ((f_X2_at x1 x2)).toNatClampNeg x3), (upd gr_wayNext_a3 ((f_X2_at x1 x2)).toNatClampNeg x4_a3), (upd gr_wayLinks_a3 ((f_X2_at x1 x2)).toNatClampNeg ((gr_wayLinks_a3 ((f_X2_at x4_a3 x2)).toNatClampNeg) ||| ((1 : Int32) <<< ((gr_linkBetween ((f_X2_at x1 x4_a3)).toNatClampNeg) &&& 31))))))
          else
            f_X2_findWay_L3 gr_nodes gr_linkBetween x1 x2 x3 n gr_wayLength_a3 gr_wayNext_a3 gr_wayLinks_a3 (x4_a3 + (1 : Int32))
theorem f_X2_findWay_L3_s (gr_nodes : Int32) (gr_linkBetween : Nat → Int32) (x1 : Int32) (x2 : Int32) (x3 : Int32) (n : Nat) (gr_wayLength_a3 : Nat → Int32) (gr_wayNext_a3 : Nat → Int32) (gr_wayLinks_a3 : Nat → Int32) (x4_a3 : Int32) : f_X2_findWay_L3 gr_nodes gr_linkBetween x1 x2 x3 (n + 1) gr_wayLength_a3 gr_wayNext_a3 gr_wayLinks_a3 x4_a3 =
      (if gr_nodes ≤ x4_a3 then
        some (.inr (gr_wayLength_a3, gr_wayNext_a3, gr_wayLinks_a3))
      else
        if (f_X2_at x1 x4_a3) < 0 ∨ 36 ≤ ((f_X2_at x1 x4_a3)).toNatClampNeg then none else
        if (gr_linkBetween ((f_X2_at x1 x4_a3)).toNatClampNeg) = (-1 : Int32) then
          f_X2_findWay_L3 gr_nodes gr_linkBetween x1 x2 x3 n gr_wayLength_a3 gr_wayNext_a3 gr_wayLinks_a3 (x4_a3 + (1 : Int32))
        else
          if (f_X2_at x4_a3 x2) < 0 ∨ 36 ≤ ((f_X2_at x4_a3 x2)).toNatClampNeg then none else
          if (gr_wayLength_a3 ((f_X2_at x4_a3 x2)).toNatClampNeg) = (x3 - (1 : Int32)) then
            if (f_X2_at x1 x2) < 0 ∨ 36 ≤ ((f_X2_at x1 x2)).toNatClampNeg then none else
            some (.inl ((upd gr_wayLength_a3 ((f_X2_at x1 x2)).toNatClampNeg x3), (upd gr_wayNext_a3 ((f_X2_at x1 x2)).toNatClampNeg x4_a3), (upd gr_wayLinks_a3 ((f_X2_at x1 x2)).toNatClampNeg ((gr_wayLinks_a3 ((f_X2_at x4_a3 x2)).toNatClampNeg) ||| ((1 : Int32) <<< ((gr_linkBetween ((f_X2_at x1 x4_a3)).toNatClampNeg) &&& 31))))))
          else
            f_X2_findWay_L3 gr_nodes gr_linkBetween x1 x2 x3 n gr_wayLength_a3 gr_wayNext_a3 gr_wayLinks_a3 (x4_a3 + (1 : Int32))) := rfl
def f_X2_findWay (gr_nodes : Int32) (gr_linkBetween : Nat → Int32) (gr_wayLength : Nat → Int32) (gr_wayNext : Nat → Int32) (gr_wayLinks : Nat → Int32) (x1 : Int32) (x2 : Int32) (x3 : Int32) : Option ((Nat → Int32) × (Nat → Int32) × (Nat → Int32)) :=
  Option.bind (f_X2_findWay_L3 gr_nodes gr_linkBetween x1 x2 x3 100 gr_wayLength gr_wayNext gr_wayLinks (0 : Int32)) fun z => match z with
  | .inl r => some r
  | .inr (gr_wayLength_o1, gr_wayNext_o2, gr_wayLinks_o3) =>
    some (gr_wayLength_o1, gr_wayNext_o2, gr_wayLinks_o3)
abbrev rm_X2_findWay : Room := { frames := 1, cells := 0, slots := 0, locals := 21 }
set_option maxHeartbeats 4000000 in
set_option maxRecDepth 100000 in
theorem c_X2_findWay (l : Launch) (D : va_G) (cI cJ : ClassId) (ad : Nat → Nat) (sz : Nat) {gr_nodes gr_links : Int32} {gr_start gr_end gr_linkBetween gr_wayLength gr_wayNext gr_wayLinks : Nat → Int32} (x1 : Int32) (x2 : Int32) (x3 : Int32) {o_gr_wayLength : Nat → Int32} {o_gr_wayNext : Nat → Int32} {o_gr_wayLinks : Nat → Int32} (hf : f_X2_findWay gr_nodes gr_linkBetween gr_wayLength gr_wayNext gr_wayLinks x1 x2 x3 = some (o_gr_wayLength, o_gr_wayNext, o_gr_wayLinks)) : CtV l yX2_findWay wsX2_findWay rm_X2_findWay D cI cJ [.ref (ad 3), .int x1, .int x2, .int x3] (wdG cI cJ ad gr_nodes gr_links gr_start gr_end gr_linkBetween gr_wayLength gr_wayNext gr_wayLinks) sz (wdG cI cJ ad gr_nodes gr_links gr_start gr_end gr_linkBetween o_gr_wayLength o_gr_wayNext o_gr_wayLinks) := by
  refine ctV_of (cc := cX2_findWay) (maxL := 6) (by decide) rfl (Nat.le_of_ble_eq_true rfl) ?_
  intro p e s m below meth c Q A hx hb hml hown hts hK hN hA hret ls hl hP hD hS
  obtain ⟨args, hargs⟩ : ∃ a : Array Value, a = [.ref (ad 3), .int x1, .int x2, .int x3].toArray := ⟨_, rfl⟩
  rw [← hargs] at hts hret ⊢
  have hown : s.vm.findClass RX2 = some m.cls := hown
  have hl : lv_has ls 6 [(0, .ref (ad 3)), (1, .int x1), (2, .int x2), (3, .int x3)] := hl
  have hin_X2 : ∀ w ∈ wsX20, w ∈ wsX2_findWay := fun _ h => List.mem_cons_of_mem _ (List.mem_append_right _ h)
  have fl_18 : (Cond.fieldLink RX2 18 "FoldedWays$Graph" "linkBetween" "[I").before args s = true := hat hts 2 rfl
  have fl_21 : (Cond.fieldLink RX2 21 "FoldedWays$Graph" "wayLength" "[I").before args s = true := hat hts 3 rfl
  have fl_24 : (Cond.fieldLink RX2 24 "FoldedWays$Graph" "wayNext" "[I").before args s = true := hat hts 4 rfl
  have fl_27 : (Cond.fieldLink RX2 27 "FoldedWays$Graph" "wayLinks" "[I").before args s = true := hat hts 5 rfl
  have fl_30 : (Cond.fieldLink RX2 30 "FoldedWays$Graph" "nodes" "I").before args s = true := hat hts 1 rfl
  unfold f_X2_findWay at hf
  refine lv_iconst (v := (0 : Int32)) hx hb dX2_findWay_0 (by decide) ?_
  refine lv_istore (lv' := [(4, .int (0 : Int32)), (0, .ref (ad 3)), (1, .int x1), (2, .int x2), (3, .int x3)]) hx hb dX2_findWay_1 hl (by decide) rfl (fun ls hl => ?_)
  have lp4 : ∀ (n : Nat) (gr_wayLength_a3 : Nat → Int32) (gr_wayNext_a3 : Nat → Int32) (gr_wayLinks_a3 : Nat → Int32) (x4_a3 : Int32) (out : ((Nat → Int32) × (Nat → Int32) × (Nat → Int32)) ⊕ ((Nat → Int32) × (Nat → Int32) × (Nat → Int32))), f_X2_findWay_L3 gr_nodes gr_linkBetween x1 x2 x3 n gr_wayLength_a3 gr_wayNext_a3 gr_wayLinks_a3 x4_a3 = some out → (∀ rv : (Nat → Int32) × (Nat → Int32) × (Nat → Int32), out = .inl rv → ∀ (pc : Nat) (ls : Array Slot) (H : Heap) (locs : List Loc), decode cX2_findWay pc = .ok (.return_, 1) → va_P D vwCl (wdG cI cJ ad gr_nodes gr_links gr_start gr_end gr_linkBetween rv.1 rv.2.1 rv.2.2) H → va_D A (wdG cI cJ ad gr_nodes gr_links gr_start gr_end gr_linkBetween rv.1 rv.2.1 rv.2.2) → va_S A s.heap H locs → W p l e rm_X2_findWay s m args below meth c H locs 0 0 Q (F0 m pc ls [])) → (∀  (gr_wayLength_o1 : Nat → Int32) (gr_wayNext_o2 : Nat → Int32) (gr_wayLinks_o3 : Nat → Int32), out = .inr (gr_wayLength_o1, gr_wayNext_o2, gr_wayLinks_o3) → ∀ (H : Heap) (locs : List Loc) (ls : Array Slot), va_P D vwCl (wdG cI cJ ad gr_nodes gr_links gr_start gr_end gr_linkBetween gr_wayLength_o1 gr_wayNext_o2 gr_wayLinks_o3) H → va_D A (wdG cI cJ ad gr_nodes gr_links gr_start gr_end gr_linkBetween gr_wayLength_o1 gr_wayNext_o2 gr_wayLinks_o3) → va_S A s.heap H locs → lv_has ls 6 [] → W p l e rm_X2_findWay s m args below meth c H locs 0 0 Q (F0 m 104 ls [])) → ∀ (H : Heap) (locs : List Loc) (ls : Array Slot), va_P D vwCl (wdG cI cJ ad gr_nodes gr_links gr_start gr_end gr_linkBetween gr_wayLength_a3 gr_wayNext_a3 gr_wayLinks_a3) H → va_D A (wdG cI cJ ad gr_nodes gr_links gr_start gr_end gr_linkBetween gr_wayLength_a3 gr_wayNext_a3 gr_wayLinks_a3) → va_S A s.heap H locs → lv_has ls 6 [(0, .ref (ad 3)), (1, .int x1), (2, .int x2), (3, .int x3), (4, .int x4_a3)] → W p l e rm_X2_findWay s m args below meth c H locs 0 0 Q (F0 m 3 ls []) := by
    intro n
    induction n with
    | zero =>
      intro gr_wayLength_a3 gr_wayNext_a3 gr_wayLinks_a3 x4_a3 out h0
      exact oo_n h0
    | succ n ih =>
      intro gr_wayLength_a3 gr_wayNext_a3 gr_wayLinks_a3 x4_a3 out hf kr kk H locs ls hP hD hS hl
      rw [f_X2_findWay_L3_s] at hf
      refine lv_iload hx hb dX2_findWay_3 (lv_at hl 4 rfl) ?_
      refine lv_aload_n hx hb dX2_findWay_5 rfl (lv_at hl 0 rfl) ?_
      refine va_get (ci := 2) (v := .int gr_nodes) (C := RX2) (T := TX2) (N := 8) hx hb hts hin_X2 hown hK hP 0 rfl rfl 0 (by decide) fl_30 (fun _ h9 => h9) rfl dX2_findWay_6 ?_
      refine lv_icmp_ge (tgt := 104) hx hb dX2_findWay_9 (by decide) (fun c5 => ?_) (fun c5 => ?_)
      · have hf := oo_t hf c5
        exact kk _ _ _ (oo_s hf).symm _ _ _ hP hD hS (lv_sub hl [] rfl)
      · have hf := oo_f hf c5
        refine lv_aload_n hx hb dX2_findWay_12 rfl (lv_at hl 0 rfl) ?_
        refine va_get (ci := 2) (v := .ref (ad 6)) (C := RX2) (T := TX2) (N := 8) hx hb hts hin_X2 hown hK hP 0 rfl rfl 4 (by decide) fl_18 (fun _ h9 => h9) rfl dX2_findWay_13 ?_
        refine lv_iload_n hx hb dX2_findWay_16 rfl (lv_at hl 1 rfl) ?_
        refine lv_iload hx hb dX2_findWay_17 (lv_at hl 4 rfl) ?_
        have F : Fr D A _ [] [] (wdG cI cJ ad gr_nodes gr_links gr_start gr_end gr_linkBetween gr_wayLength_a3 gr_wayNext_a3 gr_wayLinks_a3) := fr_nil hP hD hS hA
        refine kI F hS (rS (As := [.int x1, .int x4_a3]) (rest := [.ref (ad 6)]) ⟨hx, hb, hml, hown, hts⟩ hK hN F (c_X2_at l D cI cJ ad _  x1 x4_a3 (o_res := (f_X2_at x1 x4_a3)) rfl) (cwS 2 hts gX2_findWay_X2_at rfl rfl rfl (by decide +kernel) ⟨Nat.le_of_ble_eq_true rfl, Nat.le_of_ble_eq_true rfl⟩) rfl hl.1 rfl (Nat.le_of_ble_eq_true rfl) dX2_findWay_19 ⟨Nat.zero_le _, Nat.zero_le _⟩) (fun H locs hP hD hS => ?_)
        obtain ⟨g7, hf⟩ := oo_g hf
        refine va_iald hx hb hK hP 3 0 rfl rfl g7 dX2_findWay_22 ?_
        refine lv_istore (lv' := [(5, .int (gr_linkBetween ((f_X2_at x1 x4_a3)).toNatClampNeg)), (0, .ref (ad 3)), (1, .int x1), (2, .int x2), (3, .int x3), (4, .int x4_a3)]) hx hb dX2_findWay_23 hl (by decide) rfl (fun ls hl => ?_)
        refine lv_iload hx hb dX2_findWay_25 (lv_at hl 0 rfl) ?_
        refine lv_iconst (v := (-1 : Int32)) hx hb dX2_findWay_27 (by decide) ?_
        refine lv_icmp_eq (tgt := 98) hx hb dX2_findWay_28 (by decide) (fun c8 => ?_) (fun c8 => ?_)
        · have hf := oo_t hf c8
          refine lv_iinc (v := (x4_a3 + (1 : Int32))) (lv' := [(4, .int (x4_a3 + (1 : Int32))), (5, .int (gr_linkBetween ((f_X2_at x1 x4_a3)).toNatClampNeg)), (0, .ref (ad 3)), (1, .int x1), (2, .int x2), (3, .int x3)]) hx hb dX2_findWay_98 hl (k := 5) rfl rfl (by decide) rfl (fun ls hl => ?_)
          refine lv_goto (tgt := 3) hx hb dX2_findWay_101 (by decide) ?_
          exact ih gr_wayLength_a3 gr_wayNext_a3 gr_wayLinks_a3 (x4_a3 + (1 : Int32)) _ hf kr kk _ _ _ hP hD hS (lv_sub hl [2, 3, 4, 5, 0] rfl)
        · have hf := oo_f hf c8
          refine lv_aload_n hx hb dX2_findWay_31 rfl (lv_at hl 1 rfl) ?_
          refine va_get (ci := 2) (v := .ref (ad 7)) (C := RX2) (T := TX2) (N := 8) hx hb hts hin_X2 hown hK hP 0 rfl rfl 5 (by decide) fl_21 (fun _ h9 => h9) rfl dX2_findWay_32 ?_
          refine lv_iload hx hb dX2_findWay_35 (lv_at hl 5 rfl) ?_
          refine lv_iload_n hx hb dX2_findWay_37 rfl (lv_at hl 3 rfl) ?_
          have F : Fr D A _ [] [] (wdG cI cJ ad gr_nodes gr_links gr_start gr_end gr_linkBetween gr_wayLength_a3 gr_wayNext_a3 gr_wayLinks_a3) := fr_nil hP hD hS hA
          refine kI F hS (rS (As := [.int x4_a3, .int x2]) (rest := [.ref (ad 7)]) ⟨hx, hb, hml, hown, hts⟩ hK hN F (c_X2_at l D cI cJ ad _  x4_a3 x2 (o_res := (f_X2_at x4_a3 x2)) rfl) (cwS 2 hts gX2_findWay_X2_at rfl rfl rfl (by decide +kernel) ⟨Nat.le_of_ble_eq_true rfl, Nat.le_of_ble_eq_true rfl⟩) rfl hl.1 rfl (Nat.le_of_ble_eq_true rfl) dX2_findWay_38 ⟨Nat.zero_le _, Nat.zero_le _⟩) (fun H locs hP hD hS => ?_)
          obtain ⟨g10, hf⟩ := oo_g hf
          refine va_iald hx hb hK hP 4 0 rfl rfl g10 dX2_findWay_41 ?_
          refine lv_iload_n hx hb dX2_findWay_42 rfl (lv_at hl 4 rfl) ?_
          refine lv_iconst (v := (1 : Int32)) hx hb dX2_findWay_43 (by decide) ?_
          refine lv_isub hx hb dX2_findWay_44 ?_
          refine lv_icmp_ne (tgt := 98) hx hb dX2_findWay_45 (by decide) (fun c11 => ?_) (fun c11 => ?_)
          · have hf := oo_f hf c11
            refine lv_iinc (v := (x4_a3 + (1 : Int32))) (lv' := [(4, .int (x4_a3 + (1 : Int32))), (5, .int (gr_linkBetween ((f_X2_at x1 x4_a3)).toNatClampNeg)), (0, .ref (ad 3)), (1, .int x1), (2, .int x2), (3, .int x3)]) hx hb dX2_findWay_98 hl (k := 5) rfl rfl (by decide) rfl (fun ls hl => ?_)
            refine lv_goto (tgt := 3) hx hb dX2_findWay_101 (by decide) ?_
            exact ih gr_wayLength_a3 gr_wayNext_a3 gr_wayLinks_a3 (x4_a3 + (1 : Int32)) _ hf kr kk _ _ _ hP hD hS (lv_sub hl [2, 3, 4, 5, 0] rfl)
          · have hf := oo_t hf c11
            refine lv_aload_n hx hb dX2_findWay_48 rfl (lv_at hl 1 rfl) ?_
            refine va_get (ci := 2) (v := .ref (ad 7)) (C := RX2) (T := TX2) (N := 8) hx hb hts hin_X2 hown hK hP 0 rfl rfl 5 (by decide) fl_21 (fun _ h9 => h9) rfl dX2_findWay_49 ?_
            refine lv_iload_n hx hb dX2_findWay_52 rfl (lv_at hl 2 rfl) ?_
            refine lv_iload_n hx hb dX2_findWay_53 rfl (lv_at hl 3 rfl) ?_
            have F : Fr D A _ [] [] (wdG cI cJ ad gr_nodes gr_links gr_start gr_end gr_linkBetween gr_wayLength_a3 gr_wayNext_a3 gr_wayLinks_a3) := fr_nil hP hD hS hA
            refine kI F hS (rS (As := [.int x1, .int x2]) (rest := [.ref (ad 7)]) ⟨hx, hb, hml, hown, hts⟩ hK hN F (c_X2_at l D cI cJ ad _  x1 x2 (o_res := (f_X2_at x1 x2)) rfl) (cwS 2 hts gX2_findWay_X2_at rfl rfl rfl (by decide +kernel) ⟨Nat.le_of_ble_eq_true rfl, Nat.le_of_ble_eq_true rfl⟩) rfl hl.1 rfl (Nat.le_of_ble_eq_true rfl) dX2_findWay_54 ⟨Nat.zero_le _, Nat.zero_le _⟩) (fun H locs hP hD hS => ?_)
            refine lv_iload_n hx hb dX2_findWay_57 rfl (lv_at hl 4 rfl) ?_
            obtain ⟨g13, hf⟩ := oo_g hf
            refine va_iast hx hb hK hP hD hS 4 0 rfl rfl g13 dX2_findWay_58 (fun H locs hP hD hS => ?_)
            have hP : va_P D vwCl (wdG cI cJ ad gr_nodes gr_links gr_start gr_end gr_linkBetween (upd gr_wayLength_a3 ((f_X2_at x1 x2)).toNatClampNeg x3) gr_wayNext_a3 gr_wayLinks_a3) H := hP
            have hD : va_D A (wdG cI cJ ad gr_nodes gr_links gr_start gr_end gr_linkBetween (upd gr_wayLength_a3 ((f_X2_at x1 x2)).toNatClampNeg x3) gr_wayNext_a3 gr_wayLinks_a3) := hD
            refine lv_aload_n hx hb dX2_findWay_59 rfl (lv_at hl 1 rfl) ?_
            refine va_get (ci := 2) (v := .ref (ad 8)) (C := RX2) (T := TX2) (N := 8) hx hb hts hin_X2 hown hK hP 0 rfl rfl 6 (by decide) fl_24 (fun _ h9 => h9) rfl dX2_findWay_60 ?_
            refine lv_iload_n hx hb dX2_findWay_63 rfl (lv_at hl 2 rfl) ?_
            refine lv_iload_n hx hb dX2_findWay_64 rfl (lv_at hl 3 rfl) ?_
            have F : Fr D A _ [] [] (wdG cI cJ ad gr_nodes gr_links gr_start gr_end gr_linkBetween (upd gr_wayLength_a3 ((f_X2_at x1 x2)).toNatClampNeg x3) gr_wayNext_a3 gr_wayLinks_a3) := fr_nil hP hD hS hA
            refine kI F hS (rS (As := [.int x1, .int x2]) (rest := [.ref (ad 8)]) ⟨hx, hb, hml, hown, hts⟩ hK hN F (c_X2_at l D cI cJ ad _  x1 x2 (o_res := (f_X2_at x1 x2)) rfl) (cwS 2 hts gX2_findWay_X2_at rfl rfl rfl (by decide +kernel) ⟨Nat.le_of_ble_eq_true rfl, Nat.le_of_ble_eq_true rfl⟩) rfl hl.1 rfl (Nat.le_of_ble_eq_true rfl) dX2_findWay_65 ⟨Nat.zero_le _, Nat.zero_le _⟩) (fun H locs hP hD hS => ?_)
            refine lv_iload hx hb dX2_findWay_68 (lv_at hl 5 rfl) ?_
            refine va_iast hx hb hK hP hD hS 5 0 rfl rfl g13 dX2_findWay_70 (fun H locs hP hD hS => ?_)
            have hP : va_P D vwCl (wdG cI cJ ad gr_nodes gr_links gr_start gr_end gr_linkBetween (upd gr_wayLength_a3 ((f_X2_at x1 x2)).toNatClampNeg x3) (upd gr_wayNext_a3 ((f_X2_at x1 x2)).toNatClampNeg x4_a3) gr_wayLinks_a3) H := hP
            have hD : va_D A (wdG cI cJ ad gr_nodes gr_links gr_start gr_end gr_linkBetween (upd gr_wayLength_a3 ((f_X2_at x1 x2)).toNatClampNeg x3) (upd gr_wayNext_a3 ((f_X2_at x1 x2)).toNatClampNeg x4_a3) gr_wayLinks_a3) := hD
            refine lv_aload_n hx hb dX2_findWay_71 rfl (lv_at hl 1 rfl) ?_
            refine va_get (ci := 2) (v := .ref (ad 9)) (C := RX2) (T := TX2) (N := 8) hx hb hts hin_X2 hown hK hP 0 rfl rfl 7 (by decide) fl_27 (fun _ h9 => h9) rfl dX2_findWay_72 ?_
            refine lv_iload_n hx hb dX2_findWay_75 rfl (lv_at hl 2 rfl) ?_
            refine lv_iload_n hx hb dX2_findWay_76 rfl (lv_at hl 3 rfl) ?_
            have F : Fr D A _ [] [] (wdG cI cJ ad gr_nodes gr_links gr_start gr_end gr_linkBetween (upd gr_wayLength_a3 ((f_X2_at x1 x2)).toNatClampNeg x3) (upd gr_wayNext_a3 ((f_X2_at x1 x2)).toNatClampNeg x4_a3) gr_wayLinks_a3) := fr_nil hP hD hS hA
            refine kI F hS (rS (As := [.int x1, .int x2]) (rest := [.ref (ad 9)]) ⟨hx, hb, hml, hown, hts⟩ hK hN F (c_X2_at l D cI cJ ad _  x1 x2 (o_res := (f_X2_at x1 x2)) rfl) (cwS 2 hts gX2_findWay_X2_at rfl rfl rfl (by decide +kernel) ⟨Nat.le_of_ble_eq_true rfl, Nat.le_of_ble_eq_true rfl⟩) rfl hl.1 rfl (Nat.le_of_ble_eq_true rfl) dX2_findWay_77 ⟨Nat.zero_le _, Nat.zero_le _⟩) (fun H locs hP hD hS => ?_)
            refine lv_aload_n hx hb dX2_findWay_80 rfl (lv_at hl 1 rfl) ?_
            refine va_get (ci := 2) (v := .ref (ad 9)) (C := RX2) (T := TX2) (N := 8) hx hb hts hin_X2 hown hK hP 0 rfl rfl 7 (by decide) fl_27 (fun _ h9 => h9) rfl dX2_findWay_81 ?_
            refine lv_iload hx hb dX2_findWay_84 (lv_at hl 5 rfl) ?_
            refine lv_iload_n hx hb dX2_findWay_86 rfl (lv_at hl 3 rfl) ?_
            have F : Fr D A _ [] [] (wdG cI cJ ad gr_nodes gr_links gr_start gr_end gr_linkBetween (upd gr_wayLength_a3 ((f_X2_at x1 x2)).toNatClampNeg x3) (upd gr_wayNext_a3 ((f_X2_at x1 x2)).toNatClampNeg x4_a3) gr_wayLinks_a3) := fr_nil hP hD hS hA
            refine kI F hS (rS (As := [.int x4_a3, .int x2]) (rest := [.ref (ad 9), .int (f_X2_at x1 x2), .ref (ad 9)]) ⟨hx, hb, hml, hown, hts⟩ hK hN F (c_X2_at l D cI cJ ad _  x4_a3 x2 (o_res := (f_X2_at x4_a3 x2)) rfl) (cwS 2 hts gX2_findWay_X2_at rfl rfl rfl (by decide +kernel) ⟨Nat.le_of_ble_eq_true rfl, Nat.le_of_ble_eq_true rfl⟩) rfl hl.1 rfl (Nat.le_of_ble_eq_true rfl) dX2_findWay_87 ⟨Nat.zero_le _, Nat.zero_le _⟩) (fun H locs hP hD hS => ?_)
            refine va_iald hx hb hK hP 6 0 rfl rfl g10 dX2_findWay_90 ?_
            refine lv_iconst (v := (1 : Int32)) hx hb dX2_findWay_91 (by decide) ?_
            refine lv_iload hx hb dX2_findWay_92 (lv_at hl 0 rfl) ?_
            refine lv_ishl hx hb dX2_findWay_94 ?_
            refine lv_ior hx hb dX2_findWay_95 ?_
            refine va_iast hx hb hK hP hD hS 6 0 rfl rfl g13 dX2_findWay_96 (fun H locs hP hD hS => ?_)
            have hP : va_P D vwCl (wdG cI cJ ad gr_nodes gr_links gr_start gr_end gr_linkBetween (upd gr_wayLength_a3 ((f_X2_at x1 x2)).toNatClampNeg x3) (upd gr_wayNext_a3 ((f_X2_at x1 x2)).toNatClampNeg x4_a3) (upd gr_wayLinks_a3 ((f_X2_at x1 x2)).toNatClampNeg ((gr_wayLinks_a3 ((f_X2_at x4_a3 x2)).toNatClampNeg) ||| ((1 : Int32) <<< ((gr_linkBetween ((f_X2_at x1 x4_a3)).toNatClampNeg) &&& 31))))) H := hP
            have hD : va_D A (wdG cI cJ ad gr_nodes gr_links gr_start gr_end gr_linkBetween (upd gr_wayLength_a3 ((f_X2_at x1 x2)).toNatClampNeg x3) (upd gr_wayNext_a3 ((f_X2_at x1 x2)).toNatClampNeg x4_a3) (upd gr_wayLinks_a3 ((f_X2_at x1 x2)).toNatClampNeg ((gr_wayLinks_a3 ((f_X2_at x4_a3 x2)).toNatClampNeg) ||| ((1 : Int32) <<< ((gr_linkBetween ((f_X2_at x1 x4_a3)).toNatClampNeg) &&& 31))))) := hD
            exact kr ((upd gr_wayLength_a3 ((f_X2_at x1 x2)).toNatClampNeg x3), (upd gr_wayNext_a3 ((f_X2_at x1 x2)).toNatClampNeg x4_a3), (upd gr_wayLinks_a3 ((f_X2_at x1 x2)).toNatClampNeg ((gr_wayLinks_a3 ((f_X2_at x4_a3 x2)).toNatClampNeg) ||| ((1 : Int32) <<< ((gr_linkBetween ((f_X2_at x1 x4_a3)).toNatClampNeg) &&& 31))))) (oo_s hf).symm _ _ _ _ dX2_findWay_97 hP hD hS
  obtain ⟨out, h20, hf⟩ := oo_b hf
  refine lp4  100 gr_wayLength gr_wayNext gr_wayLinks (0 : Int32) out h20 (fun rv21 eo => ?_) (fun gr_wayLength_o1 gr_wayNext_o2 gr_wayLinks_o3 eo H locs ls hP hD hS hl => ?_) _ _ _ hP hD hS (lv_sub hl [1, 2, 3, 4, 0] rfl)
  · subst eo
    have hf := oo_s hf
    subst hf
    exact hret
  · subst eo
    try dsimp only at hf
    cases hf
    exact hret _ _ _ _ dX2_findWay_104 hP hD hS
def f_X2_findWays_L12 (gr_nodes : Int32) (gr_linkBetween : Nat → Int32) (x1 : Int32) (x2_a2 : Int32) : Nat → (Nat → Int32) → (Nat → Int32) → (Nat → Int32) → Int32 → Option ((Nat → Int32) × (Nat → Int32) × (Nat → Int32))
  | 0, _, _, _, _ => none
  | n + 1, gr_wayLength_a12, gr_wayNext_a12, gr_wayLinks_a12, x3_a12 =>
      if gr_nodes ≤ x3_a12 then
        some (gr_wayLength_a12, gr_wayNext_a12, gr_wayLinks_a12)
      else
        if (f_X2_at x2_a2 x3_a12) < 0 ∨ 36 ≤ ((f_X2_at x2_a2 x3_a12)).toNatClampNeg then none else
        Option.bind (α := (Nat → Int32) × (Nat → Int32) × (Nat → Int32)) (if (gr_wayLength_a12 ((f_X2_at x2_a2 x3_a12)).toNatClampNeg) = (-1 : Int32) then
            Option.bind (f_X2_findWay gr_nodes gr_linkBetween gr_wayLength_a12 gr_wayNext_a12 gr_wayLinks_a12 x2_a2 x3_a12 x1) fun (gr_wayLength_20, gr_wayNext_21, gr_wayLinks_22) =>
            some (gr_wayLength_20, gr_wayNext_21, gr_wayLinks_22)
          else
            some (gr_wayLength_a12, gr_wayNext_a12, gr_wayLinks_a12)) fun (gr_wayLength_13, gr_wayNext_14, gr_wayLinks_15) =>
        f_X2_findWays_L12 gr_nodes gr_linkBetween x1 x2_a2 n gr_wayLength_13 gr_wayNext_14 gr_wayLinks_15 (x3_a12 + (1 : Int32))
theorem f_X2_findWays_L12_s (gr_nodes : Int32) (gr_linkBetween : Nat → Int32) (x1 : Int32) (x2_a2 : Int32) (n : Nat) (gr_wayLength_a12 : Nat → Int32) (gr_wayNext_a12 : Nat → Int32) (gr_wayLinks_a12 : Nat → Int32) (x3_a12 : Int32) : f_X2_findWays_L12 gr_nodes gr_linkBetween x1 x2_a2 (n + 1) gr_wayLength_a12 gr_wayNext_a12 gr_wayLinks_a12 x3_a12 =
      (if gr_nodes ≤ x3_a12 then
        some (gr_wayLength_a12, gr_wayNext_a12, gr_wayLinks_a12)
      else
        if (f_X2_at x2_a2 x3_a12) < 0 ∨ 36 ≤ ((f_X2_at x2_a2 x3_a12)).toNatClampNeg then none else
        Option.bind (α := (Nat → Int32) × (Nat → Int32) × (Nat → Int32)) (if (gr_wayLength_a12 ((f_X2_at x2_a2 x3_a12)).toNatClampNeg) = (-1 : Int32) then
            Option.bind (f_X2_findWay gr_nodes gr_linkBetween gr_wayLength_a12 gr_wayNext_a12 gr_wayLinks_a12 x2_a2 x3_a12 x1) fun (gr_wayLength_20, gr_wayNext_21, gr_wayLinks_22) =>
            some (gr_wayLength_20, gr_wayNext_21, gr_wayLinks_22)
          else
            some (gr_wayLength_a12, gr_wayNext_a12, gr_wayLinks_a12)) fun (gr_wayLength_13, gr_wayNext_14, gr_wayLinks_15) =>
        f_X2_findWays_L12 gr_nodes gr_linkBetween x1 x2_a2 n gr_wayLength_13 gr_wayNext_14 gr_wayLinks_15 (x3_a12 + (1 : Int32))) := rfl
def f_X2_findWays_L2 (gr_nodes : Int32) (gr_linkBetween : Nat → Int32) (x1 : Int32) : Nat → (Nat → Int32) → (Nat → Int32) → (Nat → Int32) → Int32 → Option ((Nat → Int32) × (Nat → Int32) × (Nat → Int32))
  | 0, _, _, _, _ => none
  | n + 1, gr_wayLength_a2, gr_wayNext_a2, gr_wayLinks_a2, x2_a2 =>
      if gr_nodes ≤ x2_a2 then
        some (gr_wayLength_a2, gr_wayNext_a2, gr_wayLinks_a2)
      else
        Option.bind (f_X2_findWays_L12 gr_nodes gr_linkBetween x1 x2_a2 100 gr_wayLength_a2 gr_wayNext_a2 gr_wayLinks_a2 (0 : Int32)) fun (gr_wayLength_o6, gr_wayNext_o7, gr_wayLinks_o8) =>
        f_X2_findWays_L2 gr_nodes gr_linkBetween x1 n gr_wayLength_o6 gr_wayNext_o7 gr_wayLinks_o8 (x2_a2 + (1 : Int32))
theorem f_X2_findWays_L2_s (gr_nodes : Int32) (gr_linkBetween : Nat → Int32) (x1 : Int32) (n : Nat) (gr_wayLength_a2 : Nat → Int32) (gr_wayNext_a2 : Nat → Int32) (gr_wayLinks_a2 : Nat → Int32) (x2_a2 : Int32) : f_X2_findWays_L2 gr_nodes gr_linkBetween x1 (n + 1) gr_wayLength_a2 gr_wayNext_a2 gr_wayLinks_a2 x2_a2 =
      (if gr_nodes ≤ x2_a2 then
        some (gr_wayLength_a2, gr_wayNext_a2, gr_wayLinks_a2)
      else
        Option.bind (f_X2_findWays_L12 gr_nodes gr_linkBetween x1 x2_a2 100 gr_wayLength_a2 gr_wayNext_a2 gr_wayLinks_a2 (0 : Int32)) fun (gr_wayLength_o6, gr_wayNext_o7, gr_wayLinks_o8) =>
        f_X2_findWays_L2 gr_nodes gr_linkBetween x1 n gr_wayLength_o6 gr_wayNext_o7 gr_wayLinks_o8 (x2_a2 + (1 : Int32))) := rfl
def f_X2_findWays (gr_nodes : Int32) (gr_linkBetween : Nat → Int32) (gr_wayLength : Nat → Int32) (gr_wayNext : Nat → Int32) (gr_wayLinks : Nat → Int32) (x1 : Int32) : Option ((Nat → Int32) × (Nat → Int32) × (Nat → Int32)) :=
  Option.bind (f_X2_findWays_L2 gr_nodes gr_linkBetween x1 100 gr_wayLength gr_wayNext gr_wayLinks (0 : Int32)) fun (gr_wayLength_o1, gr_wayNext_o2, gr_wayLinks_o3) =>
  some (gr_wayLength_o1, gr_wayNext_o2, gr_wayLinks_o3)
abbrev rm_X2_findWays : Room := { frames := 2, cells := 0, slots := 0, locals := 46 }
set_option maxHeartbeats 4000000 in
set_option maxRecDepth 100000 in
theorem c_X2_findWays (l : Launch) (D : va_G) (cI cJ : ClassId) (ad : Nat → Nat) (sz : Nat) {gr_nodes gr_links : Int32} {gr_start gr_end gr_linkBetween gr_wayLength gr_wayNext gr_wayLinks : Nat → Int32} (x1 : Int32) {o_gr_wayLength : Nat → Int32} {o_gr_wayNext : Nat → Int32} {o_gr_wayLinks : Nat → Int32} (hf : f_X2_findWays gr_nodes gr_linkBetween gr_wayLength gr_wayNext gr_wayLinks x1 = some (o_gr_wayLength, o_gr_wayNext, o_gr_wayLinks)) : CtV l yX2_findWays wsX2_findWays rm_X2_findWays D cI cJ [.ref (ad 3), .int x1] (wdG cI cJ ad gr_nodes gr_links gr_start gr_end gr_linkBetween gr_wayLength gr_wayNext gr_wayLinks) sz (wdG cI cJ ad gr_nodes gr_links gr_start gr_end gr_linkBetween o_gr_wayLength o_gr_wayNext o_gr_wayLinks) := by
  refine ctV_of (cc := cX2_findWays) (maxL := 4) (by decide) rfl (Nat.le_of_ble_eq_true rfl) ?_
  intro p e s m below meth c Q A hx hb hml hown hts hK hN hA hret ls hl hP hD hS
  obtain ⟨args, hargs⟩ : ∃ a : Array Value, a = [.ref (ad 3), .int x1].toArray := ⟨_, rfl⟩
  rw [← hargs] at hts hret ⊢
  have hown : s.vm.findClass RX2 = some m.cls := hown
  have hl : lv_has ls 4 [(0, .ref (ad 3)), (1, .int x1)] := hl
  have hin_X2 : ∀ w ∈ wsX20, w ∈ wsX2_findWays := fun _ h => List.mem_cons_of_mem _ (List.mem_append_right _ h)
  have fl_21 : (Cond.fieldLink RX2 21 "FoldedWays$Graph" "wayLength" "[I").before args s = true := hat hts 2 rfl
  have fl_30 : (Cond.fieldLink RX2 30 "FoldedWays$Graph" "nodes" "I").before args s = true := hat hts 1 rfl
  unfold f_X2_findWays at hf
  refine lv_iconst (v := (0 : Int32)) hx hb dX2_findWays_0 (by decide) ?_
  refine lv_istore_n (lv' := [(2, .int (0 : Int32)), (0, .ref (ad 3)), (1, .int x1)]) hx hb dX2_findWays_1 rfl hl (by decide) rfl (fun ls hl => ?_)
  have lp4 : ∀ (n : Nat) (gr_wayLength_a2 : Nat → Int32) (gr_wayNext_a2 : Nat → Int32) (gr_wayLinks_a2 : Nat → Int32) (x2_a2 : Int32) (gr_wayLength_o1 : Nat → Int32) (gr_wayNext_o2 : Nat → Int32) (gr_wayLinks_o3 : Nat → Int32), f_X2_findWays_L2 gr_nodes gr_linkBetween x1 n gr_wayLength_a2 gr_wayNext_a2 gr_wayLinks_a2 x2_a2 = some (gr_wayLength_o1, gr_wayNext_o2, gr_wayLinks_o3) → (∀ (H : Heap) (locs : List Loc) (ls : Array Slot), va_P D vwCl (wdG cI cJ ad gr_nodes gr_links gr_start gr_end gr_linkBetween gr_wayLength_o1 gr_wayNext_o2 gr_wayLinks_o3) H → va_D A (wdG cI cJ ad gr_nodes gr_links gr_start gr_end gr_linkBetween gr_wayLength_o1 gr_wayNext_o2 gr_wayLinks_o3) → va_S A s.heap H locs → lv_has ls 4 [] → W p l e rm_X2_findWays s m args below meth c H locs 0 0 Q (F0 m 53 ls [])) → ∀ (H : Heap) (locs : List Loc) (ls : Array Slot), va_P D vwCl (wdG cI cJ ad gr_nodes gr_links gr_start gr_end gr_linkBetween gr_wayLength_a2 gr_wayNext_a2 gr_wayLinks_a2) H → va_D A (wdG cI cJ ad gr_nodes gr_links gr_start gr_end gr_linkBetween gr_wayLength_a2 gr_wayNext_a2 gr_wayLinks_a2) → va_S A s.heap H locs → lv_has ls 4 [(0, .ref (ad 3)), (1, .int x1), (2, .int x2_a2)] → W p l e rm_X2_findWays s m args below meth c H locs 0 0 Q (F0 m 2 ls []) := by
    intro n
    induction n with
    | zero =>
      intro gr_wayLength_a2 gr_wayNext_a2 gr_wayLinks_a2 x2_a2 gr_wayLength_o1 gr_wayNext_o2 gr_wayLinks_o3 h0
      exact oo_n h0
    | succ n ih =>
      intro gr_wayLength_a2 gr_wayNext_a2 gr_wayLinks_a2 x2_a2 gr_wayLength_o1 gr_wayNext_o2 gr_wayLinks_o3 hf kk H locs ls hP hD hS hl
      rw [f_X2_findWays_L2_s] at hf
      refine lv_iload_n hx hb dX2_findWays_2 rfl (lv_at hl 2 rfl) ?_
      refine lv_aload_n hx hb dX2_findWays_3 rfl (lv_at hl 0 rfl) ?_
      refine va_get (ci := 2) (v := .int gr_nodes) (C := RX2) (T := TX2) (N := 8) hx hb hts hin_X2 hown hK hP 0 rfl rfl 0 (by decide) fl_30 (fun _ h9 => h9) rfl dX2_findWays_4 ?_
      refine lv_icmp_ge (tgt := 53) hx hb dX2_findWays_7 (by decide) (fun c5 => ?_) (fun c5 => ?_)
      · have hf := oo_t hf c5
        cases hf
        exact kk _ _ _ hP hD hS (lv_sub hl [] rfl)
      · have hf := oo_f hf c5
        refine lv_iconst (v := (0 : Int32)) hx hb dX2_findWays_10 (by decide) ?_
        refine lv_istore_n (lv' := [(3, .int (0 : Int32)), (0, .ref (ad 3)), (1, .int x1), (2, .int x2_a2)]) hx hb dX2_findWays_11 rfl hl (by decide) rfl (fun ls hl => ?_)
        have lp9 : ∀ (n : Nat) (gr_wayLength_a12 : Nat → Int32) (gr_wayNext_a12 : Nat → Int32) (gr_wayLinks_a12 : Nat → Int32) (x3_a12 : Int32) (gr_wayLength_o6 : Nat → Int32) (gr_wayNext_o7 : Nat → Int32) (gr_wayLinks_o8 : Nat → Int32), f_X2_findWays_L12 gr_nodes gr_linkBetween x1 x2_a2 n gr_wayLength_a12 gr_wayNext_a12 gr_wayLinks_a12 x3_a12 = some (gr_wayLength_o6, gr_wayNext_o7, gr_wayLinks_o8) → (∀ (H : Heap) (locs : List Loc) (ls : Array Slot), va_P D vwCl (wdG cI cJ ad gr_nodes gr_links gr_start gr_end gr_linkBetween gr_wayLength_o6 gr_wayNext_o7 gr_wayLinks_o8) H → va_D A (wdG cI cJ ad gr_nodes gr_links gr_start gr_end gr_linkBetween gr_wayLength_o6 gr_wayNext_o7 gr_wayLinks_o8) → va_S A s.heap H locs → lv_has ls 4 [(0, .ref (ad 3)), (1, .int x1), (2, .int x2_a2)] → W p l e rm_X2_findWays s m args below meth c H locs 0 0 Q (F0 m 47 ls [])) → ∀ (H : Heap) (locs : List Loc) (ls : Array Slot), va_P D vwCl (wdG cI cJ ad gr_nodes gr_links gr_start gr_end gr_linkBetween gr_wayLength_a12 gr_wayNext_a12 gr_wayLinks_a12) H → va_D A (wdG cI cJ ad gr_nodes gr_links gr_start gr_end gr_linkBetween gr_wayLength_a12 gr_wayNext_a12 gr_wayLinks_a12) → va_S A s.heap H locs → lv_has ls 4 [(0, .ref (ad 3)), (1, .int x1), (2, .int x2_a2), (3, .int x3_a12)] → W p l e rm_X2_findWays s m args below meth c H locs 0 0 Q (F0 m 12 ls []) := by
          intro n
          induction n with
          | zero =>
            intro gr_wayLength_a12 gr_wayNext_a12 gr_wayLinks_a12 x3_a12 gr_wayLength_o6 gr_wayNext_o7 gr_wayLinks_o8 h0
            exact oo_n h0
          | succ n ih =>
            intro gr_wayLength_a12 gr_wayNext_a12 gr_wayLinks_a12 x3_a12 gr_wayLength_o6 gr_wayNext_o7 gr_wayLinks_o8 hf kk H locs ls hP hD hS hl
            rw [f_X2_findWays_L12_s] at hf
            refine lv_iload_n hx hb dX2_findWays_12 rfl (lv_at hl 3 rfl) ?_
            refine lv_aload_n hx hb dX2_findWays_13 rfl (lv_at hl 0 rfl) ?_
            refine va_get (ci := 2) (v := .int gr_nodes) (C := RX2) (T := TX2) (N := 8) hx hb hts hin_X2 hown hK hP 0 rfl rfl 0 (by decide) fl_30 (fun _ h9 => h9) rfl dX2_findWays_14 ?_
            refine lv_icmp_ge (tgt := 47) hx hb dX2_findWays_17 (by decide) (fun c10 => ?_) (fun c10 => ?_)
            · have hf := oo_t hf c10
              cases hf
              exact kk _ _ _ hP hD hS (lv_sub hl [0, 1, 2] rfl)
            · have hf := oo_f hf c10
              refine lv_aload_n hx hb dX2_findWays_20 rfl (lv_at hl 0 rfl) ?_
              refine va_get (ci := 2) (v := .ref (ad 7)) (C := RX2) (T := TX2) (N := 8) hx hb hts hin_X2 hown hK hP 0 rfl rfl 5 (by decide) fl_21 (fun _ h9 => h9) rfl dX2_findWays_21 ?_
              refine lv_iload_n hx hb dX2_findWays_24 rfl (lv_at hl 2 rfl) ?_
              refine lv_iload_n hx hb dX2_findWays_25 rfl (lv_at hl 3 rfl) ?_
              have F : Fr D A _ [] [] (wdG cI cJ ad gr_nodes gr_links gr_start gr_end gr_linkBetween gr_wayLength_a12 gr_wayNext_a12 gr_wayLinks_a12) := fr_nil hP hD hS hA
              refine kI F hS (rS (As := [.int x2_a2, .int x3_a12]) (rest := [.ref (ad 7)]) ⟨hx, hb, hml, hown, hts⟩ hK hN F (c_X2_at l D cI cJ ad _  x2_a2 x3_a12 (o_res := (f_X2_at x2_a2 x3_a12)) rfl) (cwS 2 hts gX2_findWays_X2_at rfl rfl rfl (by decide +kernel) ⟨Nat.le_of_ble_eq_true rfl, Nat.le_of_ble_eq_true rfl⟩) rfl hl.1 rfl (Nat.le_of_ble_eq_true rfl) dX2_findWays_26 ⟨Nat.zero_le _, Nat.zero_le _⟩) (fun H locs hP hD hS => ?_)
              obtain ⟨g12, hf⟩ := oo_g hf
              refine va_iald hx hb hK hP 4 0 rfl rfl g12 dX2_findWays_29 ?_
              refine lv_iconst (v := (-1 : Int32)) hx hb dX2_findWays_30 (by decide) ?_
              obtain ⟨⟨gr_wayLength_13, gr_wayNext_14, gr_wayLinks_15⟩, hj17, hf⟩ := oo_b hf
              try dsimp only at hf
              have kj16 : ∀ (H : Heap) (locs : List Loc) (ls : Array Slot), va_P D vwCl (wdG cI cJ ad gr_nodes gr_links gr_start gr_end gr_linkBetween gr_wayLength_13 gr_wayNext_14 gr_wayLinks_15) H → va_D A (wdG cI cJ ad gr_nodes gr_links gr_start gr_end gr_linkBetween gr_wayLength_13 gr_wayNext_14 gr_wayLinks_15) → va_S A s.heap H locs → lv_has ls 4 [(0, .ref (ad 3)), (1, .int x1), (2, .int x2_a2), (3, .int x3_a12)] → W p l e rm_X2_findWays s m args below meth c H locs 0 0 Q (F0 m 41 ls []) := by
                intro H locs ls hP hD hS hl
                refine lv_iinc (v := (x3_a12 + (1 : Int32))) (lv' := [(3, .int (x3_a12 + (1 : Int32))), (0, .ref (ad 3)), (1, .int x1), (2, .int x2_a2)]) hx hb dX2_findWays_41 hl (k := 3) rfl rfl (by decide) rfl (fun ls hl => ?_)
                refine lv_goto (tgt := 12) hx hb dX2_findWays_44 (by decide) ?_
                exact ih gr_wayLength_13 gr_wayNext_14 gr_wayLinks_15 (x3_a12 + (1 : Int32)) _ _ _ hf kk _ _ _ hP hD hS (lv_sub hl [1, 2, 3, 0] rfl)
              clear hf
              have hf := hj17
              clear hj17
              refine lv_icmp_ne (tgt := 41) hx hb dX2_findWays_31 (by decide) (fun c18 => ?_) (fun c18 => ?_)
              · have hf := oo_f hf c18
                cases hf
                exact kj16 _ _ _ hP hD hS (lv_sub hl [0, 1, 2, 3] rfl)
              · have hf := oo_t hf c18
                refine lv_aload_n hx hb dX2_findWays_34 rfl (lv_at hl 0 rfl) ?_
                refine lv_iload_n hx hb dX2_findWays_35 rfl (lv_at hl 2 rfl) ?_
                refine lv_iload_n hx hb dX2_findWays_36 rfl (lv_at hl 3 rfl) ?_
                refine lv_iload_n hx hb dX2_findWays_37 rfl (lv_at hl 1 rfl) ?_
                obtain ⟨⟨gr_wayLength_20, gr_wayNext_21, gr_wayLinks_22⟩, h19, hf⟩ := oo_b hf
                try dsimp only at hf
                have F : Fr D A _ (wdG cI cJ ad gr_nodes gr_links gr_start gr_end gr_linkBetween gr_wayLength_a12 gr_wayNext_a12 gr_wayLinks_a12) (wdG cI cJ ad gr_nodes gr_links gr_start gr_end gr_linkBetween gr_wayLength_20 gr_wayNext_21 gr_wayLinks_22) (wdG cI cJ ad gr_nodes gr_links gr_start gr_end gr_linkBetween gr_wayLength_20 gr_wayNext_21 gr_wayLinks_22) := fr_self hP hD hS hA
                refine kV F hS (rV (q := (RX2, TX2, 8)) (As := [.int x2_a2, .int x3_a12, .int x1]) (rest := []) ⟨hx, hb, hml, hown, hts⟩ hK hN F (c_X2_findWay l D cI cJ ad _ (gr_nodes := gr_nodes) (gr_links := gr_links) (gr_start := gr_start) (gr_end := gr_end) (gr_linkBetween := gr_linkBetween) (gr_wayLength := gr_wayLength_a12) (gr_wayNext := gr_wayNext_a12) (gr_wayLinks := gr_wayLinks_a12) x2_a2 x3_a12 x1 (o_gr_wayLength := gr_wayLength_20) (o_gr_wayNext := gr_wayNext_21) (o_gr_wayLinks := gr_wayLinks_22) h19) (cwV 3 hts gX2_findWays_X2_findWay rfl rfl rfl (by decide +kernel) ⟨Nat.le_of_ble_eq_true rfl, Nat.le_of_ble_eq_true rfl⟩) (ci := 2) rfl rfl rfl hl.1 rfl (Nat.le_of_ble_eq_true rfl) dX2_findWays_38 ⟨Nat.zero_le _, Nat.zero_le _⟩) (fun H locs hP hD hS => ?_)
                cases hf
                exact kj16 _ _ _ hP hD hS (lv_sub hl [0, 1, 2, 3] rfl)
        obtain ⟨⟨gr_wayLength_o6, gr_wayNext_o7, gr_wayLinks_o8⟩, h24, hf⟩ := oo_b hf
        try dsimp only at hf
        refine lp9  100 gr_wayLength_a2 gr_wayNext_a2 gr_wayLinks_a2 (0 : Int32) gr_wayLength_o6 gr_wayNext_o7 gr_wayLinks_o8 h24 (fun H locs ls hP hD hS hl => ?_) _ _ _ hP hD hS (lv_sub hl [1, 2, 3, 0] rfl)
        refine lv_iinc (v := (x2_a2 + (1 : Int32))) (lv' := [(2, .int (x2_a2 + (1 : Int32))), (0, .ref (ad 3)), (1, .int x1)]) hx hb dX2_findWays_47 hl (k := 2) rfl rfl (by decide) rfl (fun ls hl => ?_)
        refine lv_goto (tgt := 2) hx hb dX2_findWays_50 (by decide) ?_
        exact ih gr_wayLength_o6 gr_wayNext_o7 gr_wayLinks_o8 (x2_a2 + (1 : Int32)) _ _ _ hf kk _ _ _ hP hD hS (lv_sub hl [1, 2, 0] rfl)
  obtain ⟨⟨gr_wayLength_o1, gr_wayNext_o2, gr_wayLinks_o3⟩, h25, hf⟩ := oo_b hf
  try dsimp only at hf
  refine lp4  100 gr_wayLength gr_wayNext gr_wayLinks (0 : Int32) gr_wayLength_o1 gr_wayNext_o2 gr_wayLinks_o3 h25 (fun H locs ls hP hD hS hl => ?_) _ _ _ hP hD hS (lv_sub hl [1, 2, 0] rfl)
  cases hf
  exact hret _ _ _ _ dX2_findWays_53 hP hD hS
