def f_X3_reduced_L5 (mk_width : Int32) (x1 : Int32) (x2 : Int32) : Nat → Int32 → Option ((Int32) ⊕ (Unit))
  | 0, _ => none
  | n + 1, x3_a5 =>
      if x3_a5 ≤ (1 : Int32) then
        some (.inr ())
      else
        if x3_a5 = 0 then none else
        if (x2 - x2 / x3_a5 * x3_a5) = (0 : Int32) then
          if (mk_width - mk_width / x3_a5 * x3_a5) = (0 : Int32) then
            some (.inl (x1 / x3_a5))
          else
            f_X3_reduced_L5 mk_width x1 x2 n (x3_a5 + (-1 : Int32))
        else
          f_X3_reduced_L5 mk_width x1 x2 n (x3_a5 + (-1 : Int32))
theorem f_X3_reduced_L5_s (mk_width : Int32) (x1 : Int32) (x2 : Int32) (n : Nat) (x3_a5 : Int32) : f_X3_reduced_L5 mk_width x1 x2 (n + 1) x3_a5 =
      (if x3_a5 ≤ (1 : Int32) then
        some (.inr ())
      else
        if x3_a5 = 0 then none else
        if (x2 - x2 / x3_a5 * x3_a5) = (0 : Int32) then
          if (mk_width - mk_width / x3_a5 * x3_a5) = (0 : Int32) then
            some (.inl (x1 / x3_a5))
          else
            f_X3_reduced_L5 mk_width x1 x2 n (x3_a5 + (-1 : Int32))
        else
          f_X3_reduced_L5 mk_width x1 x2 n (x3_a5 + (-1 : Int32))) := rfl
def f_X3_reduced (mk_width : Int32) (x1 : Int32) (x2 : Int32) : Option (Int32) :=
  Option.bind (f_X3_reduced_L5 mk_width x1 x2 100 mk_width) fun z => match z with
  | .inl r => some r
  | .inr _ =>
    some x1
abbrev rm_X3_reduced : Room := { frames := 0, cells := 0, slots := 0, locals := 0 }
set_option maxHeartbeats 4000000 in
set_option maxRecDepth 100000 in
theorem c_X3_reduced (l : Launch) (D : va_G) (cI cJ : ClassId) (ad : Nat → Nat) (sz : Nat) {mk_width mk_drawn mk_seed : Int32} {mk_nextSeed : Int64} {mk_bits : Nat → Int64} (x1 : Int32) (x2 : Int32) {o_res : Int32} (hf : f_X3_reduced mk_width x1 x2 = some o_res) : CtI l yX3_reduced wsX3_reduced rm_X3_reduced D cI cJ [.ref (ad 10), .int x1, .int x2] (wdK cI cJ ad mk_width mk_drawn mk_seed mk_nextSeed mk_bits) sz o_res (wdK cI cJ ad mk_width mk_drawn mk_seed mk_nextSeed mk_bits) := by
  refine ctI_of (cc := cX3_reduced) (maxL := 4) (by decide) rfl (Nat.le_of_ble_eq_true rfl) ?_
  intro p e s m below meth c Q A hx hb hml hown hts hK hN hA hret ls hl hP hD hS
  obtain ⟨args, hargs⟩ : ∃ a : Array Value, a = [.ref (ad 10), .int x1, .int x2].toArray := ⟨_, rfl⟩
  rw [← hargs] at hts hret ⊢
  have hown : s.vm.findClass RX3 = some m.cls := hown
  have hl : lv_has ls 4 [(0, .ref (ad 10)), (1, .int x1), (2, .int x2)] := hl
  have hin_X3 : ∀ w ∈ wsX30, w ∈ wsX3_reduced := fun _ h => List.mem_cons_of_mem _ (List.mem_append_right _ h)
  have fl_9 : (Cond.fieldLink RX3 9 "FoldedWays$Marks" "width" "I").before args s = true := hat hts 1 rfl
  unfold f_X3_reduced at hf
  refine lv_aload_n hx hb dX3_reduced_0 rfl (lv_at hl 0 rfl) ?_
  refine va_get (ci := 3) (v := .int mk_width) (C := RX3) (T := TX3) (N := 5) hx hb hts hin_X3 hown hK hP 0 rfl rfl 0 (by decide) fl_9 (fun _ h9 => h9) rfl dX3_reduced_1 ?_
  refine lv_istore_n (lv' := [(3, .int mk_width), (0, .ref (ad 10)), (1, .int x1), (2, .int x2)]) hx hb dX3_reduced_4 rfl hl (by decide) rfl (fun ls hl => ?_)
  have lp1 : ∀ (n : Nat) (x3_a5 : Int32) (out : (Int32) ⊕ (Unit)), f_X3_reduced_L5 mk_width x1 x2 n x3_a5 = some out → (∀ rv : Int32, out = .inl rv → ∀ (pc : Nat) (ls : Array Slot) (H : Heap) (locs : List Loc), decode cX3_reduced pc = .ok (.ireturn, 1) → va_P D vwCl (wdK cI cJ ad mk_width mk_drawn mk_seed mk_nextSeed mk_bits) H → va_D A (wdK cI cJ ad mk_width mk_drawn mk_seed mk_nextSeed mk_bits) → va_S A s.heap H locs → W p l e rm_X3_reduced s m args below meth c H locs 0 0 Q (F0 m pc ls [.int (rv)])) → (∀ (_ : Unit), out = .inr () → ∀ (H : Heap) (locs : List Loc) (ls : Array Slot), va_P D vwCl (wdK cI cJ ad mk_width mk_drawn mk_seed mk_nextSeed mk_bits) H → va_D A (wdK cI cJ ad mk_width mk_drawn mk_seed mk_nextSeed mk_bits) → va_S A s.heap H locs → lv_has ls 4 [(1, .int x1)] → W p l e rm_X3_reduced s m args below meth c H locs 0 0 Q (F0 m 35 ls [])) → ∀ (H : Heap) (locs : List Loc) (ls : Array Slot), va_P D vwCl (wdK cI cJ ad mk_width mk_drawn mk_seed mk_nextSeed mk_bits) H → va_D A (wdK cI cJ ad mk_width mk_drawn mk_seed mk_nextSeed mk_bits) → va_S A s.heap H locs → lv_has ls 4 [(0, .ref (ad 10)), (1, .int x1), (2, .int x2), (3, .int x3_a5)] → W p l e rm_X3_reduced s m args below meth c H locs 0 0 Q (F0 m 5 ls []) := by
    intro n
    induction n with
    | zero =>
      intro x3_a5 out h0
      exact oo_n h0
    | succ n ih =>
      intro x3_a5 out hf kr kk H locs ls hP hD hS hl
      rw [f_X3_reduced_L5_s] at hf
      refine lv_iload_n hx hb dX3_reduced_5 rfl (lv_at hl 3 rfl) ?_
      refine lv_iconst (v := (1 : Int32)) hx hb dX3_reduced_6 (by decide) ?_
      refine lv_icmp_le (tgt := 35) hx hb dX3_reduced_7 (by decide) (fun c2 => ?_) (fun c2 => ?_)
      · have hf := oo_t hf c2
        exact kk () (oo_s hf).symm _ _ _ hP hD hS (lv_sub hl [1] rfl)
      · have hf := oo_f hf c2
        refine lv_iload_n hx hb dX3_reduced_10 rfl (lv_at hl 2 rfl) ?_
        refine lv_iload_n hx hb dX3_reduced_11 rfl (lv_at hl 3 rfl) ?_
        obtain ⟨g3, hf⟩ := oo_g hf
        refine lv_irem hx hb dX3_reduced_12 g3 ?_
        refine lv_if_ne (tgt := 29) hx hb dX3_reduced_13 (by decide) (fun c4 => ?_) (fun c4 => ?_)
        · have hf := oo_f hf c4
          refine lv_iinc (v := (x3_a5 + (-1 : Int32))) (lv' := [(3, .int (x3_a5 + (-1 : Int32))), (0, .ref (ad 10)), (1, .int x1), (2, .int x2)]) hx hb dX3_reduced_29 hl (k := 3) rfl rfl (by decide) rfl (fun ls hl => ?_)
          refine lv_goto (tgt := 5) hx hb dX3_reduced_32 (by decide) ?_
          exact ih (x3_a5 + (-1 : Int32)) _ hf kr kk _ _ _ hP hD hS (lv_sub hl [1, 2, 3, 0] rfl)
        · have hf := oo_t hf c4
          refine lv_aload_n hx hb dX3_reduced_16 rfl (lv_at hl 0 rfl) ?_
          refine va_get (ci := 3) (v := .int mk_width) (C := RX3) (T := TX3) (N := 5) hx hb hts hin_X3 hown hK hP 0 rfl rfl 0 (by decide) fl_9 (fun _ h9 => h9) rfl dX3_reduced_17 ?_
          refine lv_iload_n hx hb dX3_reduced_20 rfl (lv_at hl 3 rfl) ?_
          refine lv_irem hx hb dX3_reduced_21 g3 ?_
          refine lv_if_ne (tgt := 29) hx hb dX3_reduced_22 (by decide) (fun c6 => ?_) (fun c6 => ?_)
          · have hf := oo_f hf c6
            refine lv_iinc (v := (x3_a5 + (-1 : Int32))) (lv' := [(3, .int (x3_a5 + (-1 : Int32))), (0, .ref (ad 10)), (1, .int x1), (2, .int x2)]) hx hb dX3_reduced_29 hl (k := 3) rfl rfl (by decide) rfl (fun ls hl => ?_)
            refine lv_goto (tgt := 5) hx hb dX3_reduced_32 (by decide) ?_
            exact ih (x3_a5 + (-1 : Int32)) _ hf kr kk _ _ _ hP hD hS (lv_sub hl [1, 2, 3, 0] rfl)
          · have hf := oo_t hf c6
            refine lv_iload_n hx hb dX3_reduced_25 rfl (lv_at hl 1 rfl) ?_
            refine lv_iload_n hx hb dX3_reduced_26 rfl (lv_at hl 3 rfl) ?_
            refine lv_idiv hx hb dX3_reduced_27 g3 ?_
            exact kr (x1 / x3_a5) (oo_s hf).symm _ _ _ _ dX3_reduced_28 hP hD hS
  obtain ⟨out, h8, hf⟩ := oo_b hf
  refine lp1  100 mk_width out h8 (fun rv9 eo => ?_) (fun _ eo H locs ls hP hD hS hl => ?_) _ _ _ hP hD hS (lv_sub hl [1, 2, 3, 0] rfl)
  · subst eo
    have hf := oo_s hf
    subst hf
    exact hret
  · subst eo
    try dsimp only at hf
    refine lv_iload_n hx hb dX3_reduced_35 rfl (lv_at hl 0 rfl) ?_
    cases hf
    exact hret _ _ _ _ dX3_reduced_36 hP hD hS
def f_X3_power_L4 (mk_drawn : Int32) (x1 : Int32) : Nat → Int32 → Int32 → Option (Int32)
  | 0, _, _ => none
  | n + 1, x2_a4, x3_a4 =>
      if mk_drawn ≤ x3_a4 then
        some x2_a4
      else
        f_X3_power_L4 mk_drawn x1 n (x2_a4 * x1) (x3_a4 + (1 : Int32))
theorem f_X3_power_L4_s (mk_drawn : Int32) (x1 : Int32) (n : Nat) (x2_a4 : Int32) (x3_a4 : Int32) : f_X3_power_L4 mk_drawn x1 (n + 1) x2_a4 x3_a4 =
      (if mk_drawn ≤ x3_a4 then
        some x2_a4
      else
        f_X3_power_L4 mk_drawn x1 n (x2_a4 * x1) (x3_a4 + (1 : Int32))) := rfl
def f_X3_power (mk_drawn : Int32) (x1 : Int32) : Option (Int32) :=
  Option.bind (f_X3_power_L4 mk_drawn x1 100 (1 : Int32) (0 : Int32)) fun x2_o1 =>
  some x2_o1
abbrev rm_X3_power : Room := { frames := 0, cells := 0, slots := 0, locals := 0 }
set_option maxHeartbeats 4000000 in
set_option maxRecDepth 100000 in
theorem c_X3_power (l : Launch) (D : va_G) (cI cJ : ClassId) (ad : Nat → Nat) (sz : Nat) {mk_width mk_drawn mk_seed : Int32} {mk_nextSeed : Int64} {mk_bits : Nat → Int64} (x1 : Int32) {o_res : Int32} (hf : f_X3_power mk_drawn x1 = some o_res) : CtI l yX3_power wsX3_power rm_X3_power D cI cJ [.ref (ad 10), .int x1] (wdK cI cJ ad mk_width mk_drawn mk_seed mk_nextSeed mk_bits) sz o_res (wdK cI cJ ad mk_width mk_drawn mk_seed mk_nextSeed mk_bits) := by
  refine ctI_of (cc := cX3_power) (maxL := 4) (by decide) rfl (Nat.le_of_ble_eq_true rfl) ?_
  intro p e s m below meth c Q A hx hb hml hown hts hK hN hA hret ls hl hP hD hS
  obtain ⟨args, hargs⟩ : ∃ a : Array Value, a = [.ref (ad 10), .int x1].toArray := ⟨_, rfl⟩
  rw [← hargs] at hts hret ⊢
  have hown : s.vm.findClass RX3 = some m.cls := hown
  have hl : lv_has ls 4 [(0, .ref (ad 10)), (1, .int x1)] := hl
  have hin_X3 : ∀ w ∈ wsX30, w ∈ wsX3_power := fun _ h => List.mem_cons_of_mem _ (List.mem_append_right _ h)
  have fl_15 : (Cond.fieldLink RX3 15 "FoldedWays$Marks" "drawn" "I").before args s = true := hat hts 1 rfl
  unfold f_X3_power at hf
  refine lv_iconst (v := (1 : Int32)) hx hb dX3_power_0 (by decide) ?_
  refine lv_istore_n (lv' := [(2, .int (1 : Int32)), (0, .ref (ad 10)), (1, .int x1)]) hx hb dX3_power_1 rfl hl (by decide) rfl (fun ls hl => ?_)
  refine lv_iconst (v := (0 : Int32)) hx hb dX3_power_2 (by decide) ?_
  refine lv_istore_n (lv' := [(3, .int (0 : Int32)), (2, .int (1 : Int32)), (0, .ref (ad 10)), (1, .int x1)]) hx hb dX3_power_3 rfl hl (by decide) rfl (fun ls hl => ?_)
  have lp2 : ∀ (n : Nat) (x2_a4 : Int32) (x3_a4 : Int32) (x2_o1 : Int32), f_X3_power_L4 mk_drawn x1 n x2_a4 x3_a4 = some x2_o1 → (∀ (H : Heap) (locs : List Loc) (ls : Array Slot), va_P D vwCl (wdK cI cJ ad mk_width mk_drawn mk_seed mk_nextSeed mk_bits) H → va_D A (wdK cI cJ ad mk_width mk_drawn mk_seed mk_nextSeed mk_bits) → va_S A s.heap H locs → lv_has ls 4 [(2, .int x2_o1)] → W p l e rm_X3_power s m args below meth c H locs 0 0 Q (F0 m 22 ls [])) → ∀ (H : Heap) (locs : List Loc) (ls : Array Slot), va_P D vwCl (wdK cI cJ ad mk_width mk_drawn mk_seed mk_nextSeed mk_bits) H → va_D A (wdK cI cJ ad mk_width mk_drawn mk_seed mk_nextSeed mk_bits) → va_S A s.heap H locs → lv_has ls 4 [(0, .ref (ad 10)), (1, .int x1), (2, .int x2_a4), (3, .int x3_a4)] → W p l e rm_X3_power s m args below meth c H locs 0 0 Q (F0 m 4 ls []) := by
    intro n
    induction n with
    | zero =>
      intro x2_a4 x3_a4 x2_o1 h0
      exact oo_n h0
    | succ n ih =>
      intro x2_a4 x3_a4 x2_o1 hf kk H locs ls hP hD hS hl
      rw [f_X3_power_L4_s] at hf
      refine lv_iload_n hx hb dX3_power_4 rfl (lv_at hl 3 rfl) ?_
      refine lv_aload_n hx hb dX3_power_5 rfl (lv_at hl 0 rfl) ?_
      refine va_get (ci := 3) (v := .int mk_drawn) (C := RX3) (T := TX3) (N := 5) hx hb hts hin_X3 hown hK hP 0 rfl rfl 1 (by decide) fl_15 (fun _ h9 => h9) rfl dX3_power_6 ?_
      refine lv_icmp_ge (tgt := 22) hx hb dX3_power_9 (by decide) (fun c3 => ?_) (fun c3 => ?_)
      · have hf := oo_t hf c3
        cases hf
        exact kk _ _ _ hP hD hS (lv_sub hl [2] rfl)
      · have hf := oo_f hf c3
        refine lv_iload_n hx hb dX3_power_12 rfl (lv_at hl 2 rfl) ?_
        refine lv_iload_n hx hb dX3_power_13 rfl (lv_at hl 1 rfl) ?_
        refine lv_imul hx hb dX3_power_14 ?_
        refine lv_istore_n (lv' := [(2, .int (x2_a4 * x1)), (0, .ref (ad 10)), (1, .int x1), (3, .int x3_a4)]) hx hb dX3_power_15 rfl hl (by decide) rfl (fun ls hl => ?_)
        refine lv_iinc (v := (x3_a4 + (1 : Int32))) (lv' := [(3, .int (x3_a4 + (1 : Int32))), (2, .int (x2_a4 * x1)), (0, .ref (ad 10)), (1, .int x1)]) hx hb dX3_power_16 hl (k := 3) rfl rfl (by decide) rfl (fun ls hl => ?_)
        refine lv_goto (tgt := 4) hx hb dX3_power_19 (by decide) ?_
        exact ih (x2_a4 * x1) (x3_a4 + (1 : Int32)) _ hf kk _ _ _ hP hD hS (lv_sub hl [2, 3, 1, 0] rfl)
  obtain ⟨x2_o1, h4, hf⟩ := oo_b hf
  try dsimp only at hf
  refine lp2  100 (1 : Int32) (0 : Int32) x2_o1 h4 (fun H locs ls hP hD hS hl => ?_) _ _ _ hP hD hS (lv_sub hl [2, 3, 1, 0] rfl)
  refine lv_iload_n hx hb dX3_power_22 rfl (lv_at hl 0 rfl) ?_
  cases hf
  exact hret _ _ _ _ dX3_power_23 hP hD hS
def f_X3_oddsAbove (mk_width : Int32) (mk_drawn : Int32) (x1 : Int32) : Option (Int32) :=
  Option.bind (f_X3_reduced mk_width x1 x1) fun r2 =>
  Option.bind (f_X3_power mk_drawn r2) fun r5 =>
  some r5
abbrev rm_X3_oddsAbove : Room := { frames := 1, cells := 0, slots := 0, locals := 23 }
set_option maxHeartbeats 4000000 in
set_option maxRecDepth 100000 in
theorem c_X3_oddsAbove (l : Launch) (D : va_G) (cI cJ : ClassId) (ad : Nat → Nat) (sz : Nat) {mk_width mk_drawn mk_seed : Int32} {mk_nextSeed : Int64} {mk_bits : Nat → Int64} (x1 : Int32) {o_res : Int32} (hf : f_X3_oddsAbove mk_width mk_drawn x1 = some o_res) : CtI l yX3_oddsAbove wsX3_oddsAbove rm_X3_oddsAbove D cI cJ [.ref (ad 10), .int x1] (wdK cI cJ ad mk_width mk_drawn mk_seed mk_nextSeed mk_bits) sz o_res (wdK cI cJ ad mk_width mk_drawn mk_seed mk_nextSeed mk_bits) := by
  refine ctI_of (cc := cX3_oddsAbove) (maxL := 2) (by decide) rfl (Nat.le_of_ble_eq_true rfl) ?_
  intro p e s m below meth c Q A hx hb hml hown hts hK hN hA hret ls hl hP hD hS
  obtain ⟨args, hargs⟩ : ∃ a : Array Value, a = [.ref (ad 10), .int x1].toArray := ⟨_, rfl⟩
  rw [← hargs] at hts hret ⊢
  have hown : s.vm.findClass RX3 = some m.cls := hown
  have hl : lv_has ls 2 [(0, .ref (ad 10)), (1, .int x1)] := hl
  unfold f_X3_oddsAbove at hf
  refine lv_aload_n hx hb dX3_oddsAbove_0 rfl (lv_at hl 0 rfl) ?_
  refine lv_aload_n hx hb dX3_oddsAbove_1 rfl (lv_at hl 0 rfl) ?_
  refine lv_iload_n hx hb dX3_oddsAbove_2 rfl (lv_at hl 1 rfl) ?_
  refine lv_iload_n hx hb dX3_oddsAbove_3 rfl (lv_at hl 1 rfl) ?_
  obtain ⟨r2, h1, hf⟩ := oo_b hf
  try dsimp only at hf
  have F : Fr D A _ (wdK cI cJ ad mk_width mk_drawn mk_seed mk_nextSeed mk_bits) (wdK cI cJ ad mk_width mk_drawn mk_seed mk_nextSeed mk_bits) (wdK cI cJ ad mk_width mk_drawn mk_seed mk_nextSeed mk_bits) := fr_self hP hD hS hA
  refine kI F hS (rV (q := (RX3, TX3, 5)) (As := [.int x1, .int x1]) (rest := [.ref (ad 10)]) ⟨hx, hb, hml, hown, hts⟩ hK hN F (c_X3_reduced l D cI cJ ad _ (mk_width := mk_width) (mk_drawn := mk_drawn) (mk_seed := mk_seed) (mk_nextSeed := mk_nextSeed) (mk_bits := mk_bits) x1 x1 (o_res := r2) h1) (cwV 2 hts gX3_oddsAbove_X3_reduced rfl rfl rfl (by decide +kernel) ⟨Nat.le_of_ble_eq_true rfl, Nat.le_of_ble_eq_true rfl⟩) (ci := 3) rfl rfl rfl hl.1 rfl (Nat.le_of_ble_eq_true rfl) dX3_oddsAbove_4 ⟨Nat.zero_le _, Nat.zero_le _⟩) (fun H locs hP hD hS => ?_)
  obtain ⟨r5, h4, hf⟩ := oo_b hf
  try dsimp only at hf
  have F : Fr D A _ (wdK cI cJ ad mk_width mk_drawn mk_seed mk_nextSeed mk_bits) (wdK cI cJ ad mk_width mk_drawn mk_seed mk_nextSeed mk_bits) (wdK cI cJ ad mk_width mk_drawn mk_seed mk_nextSeed mk_bits) := fr_self hP hD hS hA
  refine kI F hS (rV (q := (RX3, TX3, 5)) (As := [.int r2]) (rest := []) ⟨hx, hb, hml, hown, hts⟩ hK hN F (c_X3_power l D cI cJ ad _ (mk_width := mk_width) (mk_drawn := mk_drawn) (mk_seed := mk_seed) (mk_nextSeed := mk_nextSeed) (mk_bits := mk_bits) r2 (o_res := r5) h4) (cwV 1 hts gX3_oddsAbove_X3_power rfl rfl rfl (by decide +kernel) ⟨Nat.le_of_ble_eq_true rfl, Nat.le_of_ble_eq_true rfl⟩) (ci := 3) rfl rfl rfl hl.1 rfl (Nat.le_of_ble_eq_true rfl) dX3_oddsAbove_7 ⟨Nat.zero_le _, Nat.zero_le _⟩) (fun H locs hP hD hS => ?_)
  cases hf
  exact hret _ _ _ _ dX3_oddsAbove_10 hP hD hS
def f_X3_oddsBelow (mk_width : Int32) (mk_drawn : Int32) (x1 : Int32) : Option (Int32) :=
  Option.bind (f_X3_reduced mk_width mk_width x1) fun r2 =>
  Option.bind (f_X3_power mk_drawn r2) fun r5 =>
  some r5
abbrev rm_X3_oddsBelow : Room := { frames := 1, cells := 0, slots := 0, locals := 23 }
set_option maxHeartbeats 4000000 in
set_option maxRecDepth 100000 in
theorem c_X3_oddsBelow (l : Launch) (D : va_G) (cI cJ : ClassId) (ad : Nat → Nat) (sz : Nat) {mk_width mk_drawn mk_seed : Int32} {mk_nextSeed : Int64} {mk_bits : Nat → Int64} (x1 : Int32) {o_res : Int32} (hf : f_X3_oddsBelow mk_width mk_drawn x1 = some o_res) : CtI l yX3_oddsBelow wsX3_oddsBelow rm_X3_oddsBelow D cI cJ [.ref (ad 10), .int x1] (wdK cI cJ ad mk_width mk_drawn mk_seed mk_nextSeed mk_bits) sz o_res (wdK cI cJ ad mk_width mk_drawn mk_seed mk_nextSeed mk_bits) := by
  refine ctI_of (cc := cX3_oddsBelow) (maxL := 2) (by decide) rfl (Nat.le_of_ble_eq_true rfl) ?_
  intro p e s m below meth c Q A hx hb hml hown hts hK hN hA hret ls hl hP hD hS
  obtain ⟨args, hargs⟩ : ∃ a : Array Value, a = [.ref (ad 10), .int x1].toArray := ⟨_, rfl⟩
  rw [← hargs] at hts hret ⊢
  have hown : s.vm.findClass RX3 = some m.cls := hown
  have hl : lv_has ls 2 [(0, .ref (ad 10)), (1, .int x1)] := hl
  have hin_X3 : ∀ w ∈ wsX30, w ∈ wsX3_oddsBelow := fun _ h => List.mem_cons_of_mem _ (List.mem_append_right _ h)
  have fl_9 : (Cond.fieldLink RX3 9 "FoldedWays$Marks" "width" "I").before args s = true := hat hts 1 rfl
  unfold f_X3_oddsBelow at hf
  refine lv_aload_n hx hb dX3_oddsBelow_0 rfl (lv_at hl 0 rfl) ?_
  refine lv_aload_n hx hb dX3_oddsBelow_1 rfl (lv_at hl 0 rfl) ?_
  refine lv_aload_n hx hb dX3_oddsBelow_2 rfl (lv_at hl 0 rfl) ?_
  refine va_get (ci := 3) (v := .int mk_width) (C := RX3) (T := TX3) (N := 5) hx hb hts hin_X3 hown hK hP 0 rfl rfl 0 (by decide) fl_9 (fun _ h9 => h9) rfl dX3_oddsBelow_3 ?_
  refine lv_iload_n hx hb dX3_oddsBelow_6 rfl (lv_at hl 1 rfl) ?_
  obtain ⟨r2, h1, hf⟩ := oo_b hf
  try dsimp only at hf
  have F : Fr D A _ (wdK cI cJ ad mk_width mk_drawn mk_seed mk_nextSeed mk_bits) (wdK cI cJ ad mk_width mk_drawn mk_seed mk_nextSeed mk_bits) (wdK cI cJ ad mk_width mk_drawn mk_seed mk_nextSeed mk_bits) := fr_self hP hD hS hA
  refine kI F hS (rV (q := (RX3, TX3, 5)) (As := [.int mk_width, .int x1]) (rest := [.ref (ad 10)]) ⟨hx, hb, hml, hown, hts⟩ hK hN F (c_X3_reduced l D cI cJ ad _ (mk_width := mk_width) (mk_drawn := mk_drawn) (mk_seed := mk_seed) (mk_nextSeed := mk_nextSeed) (mk_bits := mk_bits) mk_width x1 (o_res := r2) h1) (cwV 2 hts gX3_oddsBelow_X3_reduced rfl rfl rfl (by decide +kernel) ⟨Nat.le_of_ble_eq_true rfl, Nat.le_of_ble_eq_true rfl⟩) (ci := 3) rfl rfl rfl hl.1 rfl (Nat.le_of_ble_eq_true rfl) dX3_oddsBelow_7 ⟨Nat.zero_le _, Nat.zero_le _⟩) (fun H locs hP hD hS => ?_)
  obtain ⟨r5, h4, hf⟩ := oo_b hf
  try dsimp only at hf
  have F : Fr D A _ (wdK cI cJ ad mk_width mk_drawn mk_seed mk_nextSeed mk_bits) (wdK cI cJ ad mk_width mk_drawn mk_seed mk_nextSeed mk_bits) (wdK cI cJ ad mk_width mk_drawn mk_seed mk_nextSeed mk_bits) := fr_self hP hD hS hA
  refine kI F hS (rV (q := (RX3, TX3, 5)) (As := [.int r2]) (rest := []) ⟨hx, hb, hml, hown, hts⟩ hK hN F (c_X3_power l D cI cJ ad _ (mk_width := mk_width) (mk_drawn := mk_drawn) (mk_seed := mk_seed) (mk_nextSeed := mk_nextSeed) (mk_bits := mk_bits) r2 (o_res := r5) h4) (cwV 1 hts gX3_oddsBelow_X3_power rfl rfl rfl (by decide +kernel) ⟨Nat.le_of_ble_eq_true rfl, Nat.le_of_ble_eq_true rfl⟩) (ci := 3) rfl rfl rfl hl.1 rfl (Nat.le_of_ble_eq_true rfl) dX3_oddsBelow_10 ⟨Nat.zero_le _, Nat.zero_le _⟩) (fun H locs hP hD hS => ?_)
  cases hf
  exact hret _ _ _ _ dX3_oddsBelow_13 hP hD hS
def f_X4_size (pg_length : Int32) : Int32 :=
  pg_length
abbrev rm_X4_size : Room := { frames := 0, cells := 0, slots := 0, locals := 0 }
set_option maxHeartbeats 4000000 in
set_option maxRecDepth 100000 in
theorem c_X4_size (l : Launch) (D : va_G) (cI cJ : ClassId) (ad : Nat → Nat) (sz : Nat) {pg_codes : Nat → Int32} {pg_length : Int32}  {o_res : Int32} (hf : f_X4_size pg_length = o_res) : CtI l yX4_size wsX4_size rm_X4_size D cI cJ [.ref (ad 1)] (wdPg cI cJ ad pg_codes pg_length) sz o_res (wdPg cI cJ ad pg_codes pg_length) := by
  refine ctI_of (cc := cX4_size) (maxL := 1) (by decide) rfl (Nat.le_of_ble_eq_true rfl) ?_
  intro p e s m below meth c Q A hx hb hml hown hts hK hN hA hret ls hl hP hD hS
  obtain ⟨args, hargs⟩ : ∃ a : Array Value, a = [.ref (ad 1)].toArray := ⟨_, rfl⟩
  rw [← hargs] at hts hret ⊢
  have hown : s.vm.findClass RX4 = some m.cls := hown
  have hl : lv_has ls 1 [(0, .ref (ad 1))] := hl
  have hin_X4 : ∀ w ∈ wsX40, w ∈ wsX4_size := fun _ h => List.mem_cons_of_mem _ (List.mem_append_right _ h)
  have fl_15 : (Cond.fieldLink RX4 15 "FoldedWays$Page" "length" "I").before args s = true := hat hts 1 rfl
  unfold f_X4_size at hf
  refine lv_aload_n hx hb dX4_size_0 rfl (lv_at hl 0 rfl) ?_
  refine va_get (ci := 4) (v := .int pg_length) (C := RX4) (T := TX4) (N := 2) hx hb hts hin_X4 hown hK hP 0 rfl rfl 1 (by decide) fl_15 (fun _ h9 => h9) rfl dX4_size_1 ?_
  cases hf
  exact hret _ _ _ _ dX4_size_4 hP hD hS
def f_X4_isFull (pg_length : Int32) : Int32 :=
  if pg_length < (25 : Int32) then
    (0 : Int32)
  else
    (1 : Int32)
abbrev rm_X4_isFull : Room := { frames := 0, cells := 0, slots := 0, locals := 0 }
set_option maxHeartbeats 4000000 in
set_option maxRecDepth 100000 in
theorem c_X4_isFull (l : Launch) (D : va_G) (cI cJ : ClassId) (ad : Nat → Nat) (sz : Nat) {pg_codes : Nat → Int32} {pg_length : Int32}  {o_res : Int32} (hf : f_X4_isFull pg_length = o_res) : CtZ l yX4_isFull wsX4_isFull rm_X4_isFull D cI cJ [.ref (ad 1)] (wdPg cI cJ ad pg_codes pg_length) sz o_res (wdPg cI cJ ad pg_codes pg_length) := by
  refine ctZ_of (cc := cX4_isFull) (maxL := 1) (by decide) rfl (Nat.le_of_ble_eq_true rfl) ?_
  intro p e s m below meth c Q A hx hb hml hown hts hK hN hA hret ls hl hP hD hS
  obtain ⟨args, hargs⟩ : ∃ a : Array Value, a = [.ref (ad 1)].toArray := ⟨_, rfl⟩
  rw [← hargs] at hts hret ⊢
  have hown : s.vm.findClass RX4 = some m.cls := hown
  have hl : lv_has ls 1 [(0, .ref (ad 1))] := hl
  have hin_X4 : ∀ w ∈ wsX40, w ∈ wsX4_isFull := fun _ h => List.mem_cons_of_mem _ (List.mem_append_right _ h)
  have fl_15 : (Cond.fieldLink RX4 15 "FoldedWays$Page" "length" "I").before args s = true := hat hts 1 rfl
  unfold f_X4_isFull at hf
  refine lv_aload_n hx hb dX4_isFull_0 rfl (lv_at hl 0 rfl) ?_
  refine va_get (ci := 4) (v := .int pg_length) (C := RX4) (T := TX4) (N := 2) hx hb hts hin_X4 hown hK hP 0 rfl rfl 1 (by decide) fl_15 (fun _ h9 => h9) rfl dX4_isFull_1 ?_
  refine lv_bipush (v := (25 : Int32)) hx hb dX4_isFull_4 (by decide) ?_
  refine lv_icmp_lt (tgt := 13) hx hb dX4_isFull_6 (by decide) (fun c1 => ?_) (fun c1 => ?_)
  · have hf := oo_t hf c1
    refine lv_iconst (v := (0 : Int32)) hx hb dX4_isFull_13 (by decide) ?_
    cases hf
    exact hret _ _ _ _ (Or.inl rfl) dX4_isFull_14 hP hD hS
  · have hf := oo_f hf c1
    refine lv_iconst (v := (1 : Int32)) hx hb dX4_isFull_9 (by decide) ?_
    refine lv_goto (tgt := 14) hx hb dX4_isFull_10 (by decide) ?_
    cases hf
    exact hret _ _ _ _ (Or.inr rfl) dX4_isFull_14 hP hD hS
def f_X4_append (pg_codes : Nat → Int32) (pg_length : Int32) (x1 : Int32) : Option ((Nat → Int32) × Int32) :=
  if (25 : Int32) ≤ pg_length then
    some (pg_codes, pg_length)
  else
    if pg_length < 0 ∨ 25 ≤ (pg_length).toNatClampNeg then none else
    some ((upd pg_codes (pg_length).toNatClampNeg x1), (pg_length + (1 : Int32)))
abbrev rm_X4_append : Room := { frames := 0, cells := 0, slots := 0, locals := 0 }
set_option maxHeartbeats 4000000 in
set_option maxRecDepth 100000 in
theorem c_X4_append (l : Launch) (D : va_G) (cI cJ : ClassId) (ad : Nat → Nat) (sz : Nat) {pg_codes : Nat → Int32} {pg_length : Int32} (x1 : Int32) {o_pg_codes : Nat → Int32} {o_pg_length : Int32} (hf : f_X4_append pg_codes pg_length x1 = some (o_pg_codes, o_pg_length)) : CtV l yX4_append wsX4_append rm_X4_append D cI cJ [.ref (ad 1), .int x1] (wdPg cI cJ ad pg_codes pg_length) sz (wdPg cI cJ ad o_pg_codes o_pg_length) := by
  refine ctV_of (cc := cX4_append) (maxL := 2) (by decide) rfl (Nat.le_of_ble_eq_true rfl) ?_
  intro p e s m below meth c Q A hx hb hml hown hts hK hN hA hret ls hl hP hD hS
  obtain ⟨args, hargs⟩ : ∃ a : Array Value, a = [.ref (ad 1), .int x1].toArray := ⟨_, rfl⟩
  rw [← hargs] at hts hret ⊢
  have hown : s.vm.findClass RX4 = some m.cls := hown
  have hl : lv_has ls 2 [(0, .ref (ad 1)), (1, .int x1)] := hl
  have hin_X4 : ∀ w ∈ wsX40, w ∈ wsX4_append := fun _ h => List.mem_cons_of_mem _ (List.mem_append_right _ h)
  have fl_11 : (Cond.fieldLink RX4 11 "FoldedWays$Page" "codes" "[I").before args s = true := hat hts 2 rfl
  have fl_15 : (Cond.fieldLink RX4 15 "FoldedWays$Page" "length" "I").before args s = true := hat hts 1 rfl
  unfold f_X4_append at hf
  refine lv_aload_n hx hb dX4_append_0 rfl (lv_at hl 0 rfl) ?_
  refine va_get (ci := 4) (v := .int pg_length) (C := RX4) (T := TX4) (N := 2) hx hb hts hin_X4 hown hK hP 0 rfl rfl 1 (by decide) fl_15 (fun _ h9 => h9) rfl dX4_append_1 ?_
  refine lv_bipush (v := (25 : Int32)) hx hb dX4_append_4 (by decide) ?_
  refine lv_icmp_ge (tgt := 29) hx hb dX4_append_6 (by decide) (fun c1 => ?_) (fun c1 => ?_)
  · have hf := oo_t hf c1
    cases hf
    exact hret _ _ _ _ dX4_append_29 hP hD hS
  · have hf := oo_f hf c1
    refine lv_aload_n hx hb dX4_append_9 rfl (lv_at hl 0 rfl) ?_
    refine va_get (ci := 4) (v := .ref (ad 2)) (C := RX4) (T := TX4) (N := 2) hx hb hts hin_X4 hown hK hP 0 rfl rfl 0 (by decide) fl_11 (fun _ h9 => h9) rfl dX4_append_10 ?_
    refine lv_aload_n hx hb dX4_append_13 rfl (lv_at hl 0 rfl) ?_
    refine va_get (ci := 4) (v := .int pg_length) (C := RX4) (T := TX4) (N := 2) hx hb hts hin_X4 hown hK hP 0 rfl rfl 1 (by decide) fl_15 (fun _ h9 => h9) rfl dX4_append_14 ?_
    refine lv_iload_n hx hb dX4_append_17 rfl (lv_at hl 1 rfl) ?_
    obtain ⟨g2, hf⟩ := oo_g hf
    refine va_iast hx hb hK hP hD hS 1 0 rfl rfl g2 dX4_append_18 (fun H locs hP hD hS => ?_)
    have hP : va_P D vwCl (wdPg cI cJ ad (upd pg_codes (pg_length).toNatClampNeg x1) pg_length) H := hP
    have hD : va_D A (wdPg cI cJ ad (upd pg_codes (pg_length).toNatClampNeg x1) pg_length) := hD
    refine lv_aload_n hx hb dX4_append_19 rfl (lv_at hl 0 rfl) ?_
    refine lv_dup hx hb dX4_append_20 rfl ?_
    refine va_get (ci := 4) (v := .int pg_length) (C := RX4) (T := TX4) (N := 2) hx hb hts hin_X4 hown hK hP 0 rfl rfl 1 (by decide) fl_15 (fun _ h9 => h9) rfl dX4_append_21 ?_
    refine lv_iconst (v := (1 : Int32)) hx hb dX4_append_24 (by decide) ?_
    refine lv_iadd hx hb dX4_append_25 ?_
    refine va_put (ci := 4) (v := .int (pg_length + (1 : Int32))) (ty := .int) (C := RX4) (T := TX4) (N := 2) hx hb hts hin_X4 tyX4 tyX4_ok nmX4 hown hK hP hD hS 0 rfl rfl 1 (by decide) fl_15 (fun _ h9 => h9) rfl (by decide +kernel) rfl rfl (Nat.le_of_ble_eq_true rfl) dX4_append_26 (fun H locs hP hD hS => ?_)
    have hP : va_P D vwCl (wdPg cI cJ ad (upd pg_codes (pg_length).toNatClampNeg x1) (pg_length + (1 : Int32))) H := hP
    have hD : va_D A (wdPg cI cJ ad (upd pg_codes (pg_length).toNatClampNeg x1) (pg_length + (1 : Int32))) := hD
    cases hf
    exact hret _ _ _ _ dX4_append_29 hP hD hS
def f_X4_clear  : Int32 :=
  (0 : Int32)
abbrev rm_X4_clear : Room := { frames := 0, cells := 0, slots := 0, locals := 0 }
set_option maxHeartbeats 4000000 in
set_option maxRecDepth 100000 in
theorem c_X4_clear (l : Launch) (D : va_G) (cI cJ : ClassId) (ad : Nat → Nat) (sz : Nat) {pg_codes : Nat → Int32} {pg_length : Int32}  {o_pg_length : Int32} (hf : f_X4_clear = o_pg_length) : CtV l yX4_clear wsX4_clear rm_X4_clear D cI cJ [.ref (ad 1)] (wdPg cI cJ ad pg_codes pg_length) sz (wdPg cI cJ ad pg_codes o_pg_length) := by
  refine ctV_of (cc := cX4_clear) (maxL := 1) (by decide) rfl (Nat.le_of_ble_eq_true rfl) ?_
  intro p e s m below meth c Q A hx hb hml hown hts hK hN hA hret ls hl hP hD hS
  obtain ⟨args, hargs⟩ : ∃ a : Array Value, a = [.ref (ad 1)].toArray := ⟨_, rfl⟩
  rw [← hargs] at hts hret ⊢
  have hown : s.vm.findClass RX4 = some m.cls := hown
  have hl : lv_has ls 1 [(0, .ref (ad 1))] := hl
  have hin_X4 : ∀ w ∈ wsX40, w ∈ wsX4_clear := fun _ h => List.mem_cons_of_mem _ (List.mem_append_right _ h)
  have fl_15 : (Cond.fieldLink RX4 15 "FoldedWays$Page" "length" "I").before args s = true := hat hts 1 rfl
  unfold f_X4_clear at hf
  refine lv_aload_n hx hb dX4_clear_0 rfl (lv_at hl 0 rfl) ?_
  refine lv_iconst (v := (0 : Int32)) hx hb dX4_clear_1 (by decide) ?_
  refine va_put (ci := 4) (v := .int (0 : Int32)) (ty := .int) (C := RX4) (T := TX4) (N := 2) hx hb hts hin_X4 tyX4 tyX4_ok nmX4 hown hK hP hD hS 0 rfl rfl 1 (by decide) fl_15 (fun _ h9 => h9) rfl (by decide +kernel) rfl rfl (Nat.le_of_ble_eq_true rfl) dX4_clear_2 (fun H locs hP hD hS => ?_)
  have hP : va_P D vwCl (wdPg cI cJ ad pg_codes (0 : Int32)) H := hP
  have hD : va_D A (wdPg cI cJ ad pg_codes (0 : Int32)) := hD
  cases hf
  exact hret _ _ _ _ dX4_clear_5 hP hD hS
def f_X4_isNodeAt (pg_codes : Nat → Int32) (pg_length : Int32) (x1 : Int32) : Option (Int32) :=
  Option.bind (f_X4_digitAt pg_codes pg_length x1) fun r2 =>
  if r2 < (0 : Int32) then
    some (0 : Int32)
  else
    Option.bind (f_X4_digitAt pg_codes pg_length x1) fun r6 =>
    Option.bind (f_X4_digitAt pg_codes pg_length (0 : Int32)) fun r9 =>
    if r9 ≤ r6 then
      some (0 : Int32)
    else
      some (1 : Int32)
abbrev rm_X4_isNodeAt : Room := { frames := 2, cells := 0, slots := 0, locals := 42 }
set_option maxHeartbeats 4000000 in
set_option maxRecDepth 100000 in
theorem c_X4_isNodeAt (l : Launch) (D : va_G) (cI cJ : ClassId) (ad : Nat → Nat) (sz : Nat) {pg_codes : Nat → Int32} {pg_length : Int32} (x1 : Int32) {o_res : Int32} (hf : f_X4_isNodeAt pg_codes pg_length x1 = some o_res) : CtZ l yX4_isNodeAt wsX4_isNodeAt rm_X4_isNodeAt D cI cJ [.ref (ad 1), .int x1] (wdPg cI cJ ad pg_codes pg_length) sz o_res (wdPg cI cJ ad pg_codes pg_length) := by
  refine ctZ_of (cc := cX4_isNodeAt) (maxL := 2) (by decide) rfl (Nat.le_of_ble_eq_true rfl) ?_
  intro p e s m below meth c Q A hx hb hml hown hts hK hN hA hret ls hl hP hD hS
  obtain ⟨args, hargs⟩ : ∃ a : Array Value, a = [.ref (ad 1), .int x1].toArray := ⟨_, rfl⟩
  rw [← hargs] at hts hret ⊢
  have hown : s.vm.findClass RX4 = some m.cls := hown
  have hl : lv_has ls 2 [(0, .ref (ad 1)), (1, .int x1)] := hl
  unfold f_X4_isNodeAt at hf
  refine lv_aload_n hx hb dX4_isNodeAt_0 rfl (lv_at hl 0 rfl) ?_
  refine lv_iload_n hx hb dX4_isNodeAt_1 rfl (lv_at hl 1 rfl) ?_
  obtain ⟨r2, h1, hf⟩ := oo_b hf
  try dsimp only at hf
  have F : Fr D A _ (wdPg cI cJ ad pg_codes pg_length) (wdPg cI cJ ad pg_codes pg_length) (wdPg cI cJ ad pg_codes pg_length) := fr_self hP hD hS hA
  refine kI F hS (rV (q := (RX4, TX4, 2)) (As := [.int x1]) (rest := []) ⟨hx, hb, hml, hown, hts⟩ hK hN F (c_X4_digitAt l D cI cJ ad _ (pg_codes := pg_codes) (pg_length := pg_length) x1 (o_res := r2) h1) (cwV 1 hts gX4_isNodeAt_X4_digitAt rfl rfl rfl (by decide +kernel) ⟨Nat.le_of_ble_eq_true rfl, Nat.le_of_ble_eq_true rfl⟩) (ci := 4) rfl rfl rfl hl.1 rfl (Nat.le_of_ble_eq_true rfl) dX4_isNodeAt_2 ⟨Nat.zero_le _, Nat.zero_le _⟩) (fun H locs hP hD hS => ?_)
  refine lv_if_lt (tgt := 25) hx hb dX4_isNodeAt_5 (by decide) (fun c4 => ?_) (fun c4 => ?_)
  · have hf := oo_t hf c4
    refine lv_iconst (v := (0 : Int32)) hx hb dX4_isNodeAt_25 (by decide) ?_
    cases hf
    exact hret _ _ _ _ (Or.inl rfl) dX4_isNodeAt_26 hP hD hS
  · have hf := oo_f hf c4
    refine lv_aload_n hx hb dX4_isNodeAt_8 rfl (lv_at hl 0 rfl) ?_
    refine lv_iload_n hx hb dX4_isNodeAt_9 rfl (lv_at hl 1 rfl) ?_
    obtain ⟨r6, h5, hf⟩ := oo_b hf
    try dsimp only at hf
    have F : Fr D A _ (wdPg cI cJ ad pg_codes pg_length) (wdPg cI cJ ad pg_codes pg_length) (wdPg cI cJ ad pg_codes pg_length) := fr_self hP hD hS hA
    refine kI F hS (rV (q := (RX4, TX4, 2)) (As := [.int x1]) (rest := []) ⟨hx, hb, hml, hown, hts⟩ hK hN F (c_X4_digitAt l D cI cJ ad _ (pg_codes := pg_codes) (pg_length := pg_length) x1 (o_res := r6) h5) (cwV 1 hts gX4_isNodeAt_X4_digitAt rfl rfl rfl (by decide +kernel) ⟨Nat.le_of_ble_eq_true rfl, Nat.le_of_ble_eq_true rfl⟩) (ci := 4) rfl rfl rfl hl.1 rfl (Nat.le_of_ble_eq_true rfl) dX4_isNodeAt_10 ⟨Nat.zero_le _, Nat.zero_le _⟩) (fun H locs hP hD hS => ?_)
    refine lv_aload_n hx hb dX4_isNodeAt_13 rfl (lv_at hl 0 rfl) ?_
    refine lv_iconst (v := (0 : Int32)) hx hb dX4_isNodeAt_14 (by decide) ?_
    obtain ⟨r9, h8, hf⟩ := oo_b hf
    try dsimp only at hf
    have F : Fr D A _ (wdPg cI cJ ad pg_codes pg_length) (wdPg cI cJ ad pg_codes pg_length) (wdPg cI cJ ad pg_codes pg_length) := fr_self hP hD hS hA
    refine kI F hS (rV (q := (RX4, TX4, 2)) (As := [.int (0 : Int32)]) (rest := [.int r6]) ⟨hx, hb, hml, hown, hts⟩ hK hN F (c_X4_digitAt l D cI cJ ad _ (pg_codes := pg_codes) (pg_length := pg_length) (0 : Int32) (o_res := r9) h8) (cwV 1 hts gX4_isNodeAt_X4_digitAt rfl rfl rfl (by decide +kernel) ⟨Nat.le_of_ble_eq_true rfl, Nat.le_of_ble_eq_true rfl⟩) (ci := 4) rfl rfl rfl hl.1 rfl (Nat.le_of_ble_eq_true rfl) dX4_isNodeAt_15 ⟨Nat.zero_le _, Nat.zero_le _⟩) (fun H locs hP hD hS => ?_)
    refine lv_icmp_ge (tgt := 25) hx hb dX4_isNodeAt_18 (by decide) (fun c11 => ?_) (fun c11 => ?_)
    · have hf := oo_t hf c11
      refine lv_iconst (v := (0 : Int32)) hx hb dX4_isNodeAt_25 (by decide) ?_
      cases hf
      exact hret _ _ _ _ (Or.inl rfl) dX4_isNodeAt_26 hP hD hS
    · have hf := oo_f hf c11
      refine lv_iconst (v := (1 : Int32)) hx hb dX4_isNodeAt_21 (by decide) ?_
      refine lv_goto (tgt := 26) hx hb dX4_isNodeAt_22 (by decide) ?_
      cases hf
      exact hret _ _ _ _ (Or.inr rfl) dX4_isNodeAt_26 hP hD hS
def f_X4_endsNewPair_L31 (pg_codes : Nat → Int32) (pg_length : Int32) (r2 : Int32) (r5 : Int32) (x4_a31 : Int32) : Nat → Int32 → Option ((Int32) ⊕ (Unit))
  | 0, _ => none
  | n + 1, x5_a31 =>
      if x4_a31 ≤ x5_a31 then
        some (.inr ())
      else
        Option.bind (f_X4_firstOfPair pg_codes pg_length x5_a31) fun r11 =>
        Option.bind (f_X4_secondOfPair pg_codes pg_length x5_a31) fun r14 =>
        if r11 = r2 then
          if r14 = r5 then
            some (.inl (0 : Int32))
          else
            if r11 = r5 then
              if r14 = r2 then
                some (.inl (0 : Int32))
              else
                f_X4_endsNewPair_L31 pg_codes pg_length r2 r5 x4_a31 n (x5_a31 + (1 : Int32))
            else
              f_X4_endsNewPair_L31 pg_codes pg_length r2 r5 x4_a31 n (x5_a31 + (1 : Int32))
        else
          if r11 = r5 then
            if r14 = r2 then
              some (.inl (0 : Int32))
            else
              f_X4_endsNewPair_L31 pg_codes pg_length r2 r5 x4_a31 n (x5_a31 + (1 : Int32))
          else
            f_X4_endsNewPair_L31 pg_codes pg_length r2 r5 x4_a31 n (x5_a31 + (1 : Int32))
theorem f_X4_endsNewPair_L31_s (pg_codes : Nat → Int32) (pg_length : Int32) (r2 : Int32) (r5 : Int32) (x4_a31 : Int32) (n : Nat) (x5_a31 : Int32) : f_X4_endsNewPair_L31 pg_codes pg_length r2 r5 x4_a31 (n + 1) x5_a31 =
      (if x4_a31 ≤ x5_a31 then
        some (.inr ())
      else
        Option.bind (f_X4_firstOfPair pg_codes pg_length x5_a31) fun r11 =>
        Option.bind (f_X4_secondOfPair pg_codes pg_length x5_a31) fun r14 =>
        if r11 = r2 then
          if r14 = r5 then
            some (.inl (0 : Int32))
          else
            if r11 = r5 then
              if r14 = r2 then
                some (.inl (0 : Int32))
              else
                f_X4_endsNewPair_L31 pg_codes pg_length r2 r5 x4_a31 n (x5_a31 + (1 : Int32))
            else
              f_X4_endsNewPair_L31 pg_codes pg_length r2 r5 x4_a31 n (x5_a31 + (1 : Int32))
        else
          if r11 = r5 then
            if r14 = r2 then
              some (.inl (0 : Int32))
            else
              f_X4_endsNewPair_L31 pg_codes pg_length r2 r5 x4_a31 n (x5_a31 + (1 : Int32))
          else
            f_X4_endsNewPair_L31 pg_codes pg_length r2 r5 x4_a31 n (x5_a31 + (1 : Int32))) := rfl
def f_X4_endsNewPair (pg_codes : Nat → Int32) (pg_length : Int32) (x1 : Int32) : Option (Int32) :=
  Option.bind (f_X4_digitAt pg_codes pg_length (x1 - (1 : Int32))) fun r2 =>
  Option.bind (f_X4_digitAt pg_codes pg_length x1) fun r5 =>
  if r2 = r5 then
    some (0 : Int32)
  else
    Option.bind (f_X4_endsNewPair_L31 pg_codes pg_length r2 r5 ((x1 / (3 : Int32)) - (1 : Int32)) 100 (0 : Int32)) fun z => match z with
    | .inl r => some r
    | .inr _ =>
      some (1 : Int32)
abbrev rm_X4_endsNewPair : Room := { frames := 3, cells := 0, slots := 0, locals := 63 }
set_option maxHeartbeats 4000000 in
set_option maxRecDepth 100000 in
theorem c_X4_endsNewPair (l : Launch) (D : va_G) (cI cJ : ClassId) (ad : Nat → Nat) (sz : Nat) {pg_codes : Nat → Int32} {pg_length : Int32} (x1 : Int32) {o_res : Int32} (hf : f_X4_endsNewPair pg_codes pg_length x1 = some o_res) : CtZ l yX4_endsNewPair wsX4_endsNewPair rm_X4_endsNewPair D cI cJ [.ref (ad 1), .int x1] (wdPg cI cJ ad pg_codes pg_length) sz o_res (wdPg cI cJ ad pg_codes pg_length) := by
  refine ctZ_of (cc := cX4_endsNewPair) (maxL := 8) (by decide) rfl (Nat.le_of_ble_eq_true rfl) ?_
  intro p e s m below meth c Q A hx hb hml hown hts hK hN hA hret ls hl hP hD hS
  obtain ⟨args, hargs⟩ : ∃ a : Array Value, a = [.ref (ad 1), .int x1].toArray := ⟨_, rfl⟩
  rw [← hargs] at hts hret ⊢
  have hown : s.vm.findClass RX4 = some m.cls := hown
  have hl : lv_has ls 8 [(0, .ref (ad 1)), (1, .int x1)] := hl
  unfold f_X4_endsNewPair at hf
  refine lv_aload_n hx hb dX4_endsNewPair_0 rfl (lv_at hl 0 rfl) ?_
  refine lv_iload_n hx hb dX4_endsNewPair_1 rfl (lv_at hl 1 rfl) ?_
  refine lv_iconst (v := (1 : Int32)) hx hb dX4_endsNewPair_2 (by decide) ?_
  refine lv_isub hx hb dX4_endsNewPair_3 ?_
  obtain ⟨r2, h1, hf⟩ := oo_b hf
  try dsimp only at hf
  have F : Fr D A _ (wdPg cI cJ ad pg_codes pg_length) (wdPg cI cJ ad pg_codes pg_length) (wdPg cI cJ ad pg_codes pg_length) := fr_self hP hD hS hA
  refine kI F hS (rV (q := (RX4, TX4, 2)) (As := [.int (x1 - (1 : Int32))]) (rest := []) ⟨hx, hb, hml, hown, hts⟩ hK hN F (c_X4_digitAt l D cI cJ ad _ (pg_codes := pg_codes) (pg_length := pg_length) (x1 - (1 : Int32)) (o_res := r2) h1) (cwV 1 hts gX4_endsNewPair_X4_digitAt rfl rfl rfl (by decide +kernel) ⟨Nat.le_of_ble_eq_true rfl, Nat.le_of_ble_eq_true rfl⟩) (ci := 4) rfl rfl rfl hl.1 rfl (Nat.le_of_ble_eq_true rfl) dX4_endsNewPair_4 ⟨Nat.zero_le _, Nat.zero_le _⟩) (fun H locs hP hD hS => ?_)
  refine lv_istore_n (lv' := [(2, .int r2), (0, .ref (ad 1)), (1, .int x1)]) hx hb dX4_endsNewPair_7 rfl hl (by decide) rfl (fun ls hl => ?_)
  refine lv_aload_n hx hb dX4_endsNewPair_8 rfl (lv_at hl 1 rfl) ?_
  refine lv_iload_n hx hb dX4_endsNewPair_9 rfl (lv_at hl 2 rfl) ?_
  obtain ⟨r5, h4, hf⟩ := oo_b hf
  try dsimp only at hf
  have F : Fr D A _ (wdPg cI cJ ad pg_codes pg_length) (wdPg cI cJ ad pg_codes pg_length) (wdPg cI cJ ad pg_codes pg_length) := fr_self hP hD hS hA
  refine kI F hS (rV (q := (RX4, TX4, 2)) (As := [.int x1]) (rest := []) ⟨hx, hb, hml, hown, hts⟩ hK hN F (c_X4_digitAt l D cI cJ ad _ (pg_codes := pg_codes) (pg_length := pg_length) x1 (o_res := r5) h4) (cwV 1 hts gX4_endsNewPair_X4_digitAt rfl rfl rfl (by decide +kernel) ⟨Nat.le_of_ble_eq_true rfl, Nat.le_of_ble_eq_true rfl⟩) (ci := 4) rfl rfl rfl hl.1 rfl (Nat.le_of_ble_eq_true rfl) dX4_endsNewPair_10 ⟨Nat.zero_le _, Nat.zero_le _⟩) (fun H locs hP hD hS => ?_)
  refine lv_istore_n (lv' := [(3, .int r5), (2, .int r2), (0, .ref (ad 1)), (1, .int x1)]) hx hb dX4_endsNewPair_13 rfl hl (by decide) rfl (fun ls hl => ?_)
  refine lv_iload_n hx hb dX4_endsNewPair_14 rfl (lv_at hl 1 rfl) ?_
  refine lv_iload_n hx hb dX4_endsNewPair_15 rfl (lv_at hl 0 rfl) ?_
  refine lv_icmp_ne (tgt := 21) hx hb dX4_endsNewPair_16 (by decide) (fun c7 => ?_) (fun c7 => ?_)
  · have hf := oo_f hf c7
    refine lv_iload_n hx hb dX4_endsNewPair_21 rfl (lv_at hl 3 rfl) ?_
    refine lv_iconst (v := (3 : Int32)) hx hb dX4_endsNewPair_22 (by decide) ?_
    refine lv_idiv hx hb dX4_endsNewPair_23 (by decide) ?_
    refine lv_iconst (v := (1 : Int32)) hx hb dX4_endsNewPair_24 (by decide) ?_
    refine lv_isub hx hb dX4_endsNewPair_25 ?_
    refine lv_istore (lv' := [(4, .int ((x1 / (3 : Int32)) - (1 : Int32))), (3, .int r5), (2, .int r2), (0, .ref (ad 1)), (1, .int x1)]) hx hb dX4_endsNewPair_26 hl (by decide) rfl (fun ls hl => ?_)
    refine lv_iconst (v := (0 : Int32)) hx hb dX4_endsNewPair_28 (by decide) ?_
    refine lv_istore (lv' := [(5, .int (0 : Int32)), (4, .int ((x1 / (3 : Int32)) - (1 : Int32))), (3, .int r5), (2, .int r2), (0, .ref (ad 1)), (1, .int x1)]) hx hb dX4_endsNewPair_29 hl (by decide) rfl (fun ls hl => ?_)
    have lp8 : ∀ (x4_a31 : Int32) (n : Nat) (x5_a31 : Int32) (out : (Int32) ⊕ (Unit)), f_X4_endsNewPair_L31 pg_codes pg_length r2 r5 x4_a31 n x5_a31 = some out → (∀ rv : Int32, out = .inl rv → ∀ (pc : Nat) (ls : Array Slot) (H : Heap) (locs : List Loc), (rv = 0 ∨ rv = 1) → decode cX4_endsNewPair pc = .ok (.ireturn, 1) → va_P D vwCl (wdPg cI cJ ad pg_codes pg_length) H → va_D A (wdPg cI cJ ad pg_codes pg_length) → va_S A s.heap H locs → W p l e rm_X4_endsNewPair s m args below meth c H locs 0 0 Q (F0 m pc ls [.int (rv)])) → (∀ (_ : Unit), out = .inr () → ∀ (H : Heap) (locs : List Loc) (ls : Array Slot), va_P D vwCl (wdPg cI cJ ad pg_codes pg_length) H → va_D A (wdPg cI cJ ad pg_codes pg_length) → va_S A s.heap H locs → lv_has ls 8 [] → W p l e rm_X4_endsNewPair s m args below meth c H locs 0 0 Q (F0 m 86 ls [])) → ∀ (H : Heap) (locs : List Loc) (ls : Array Slot), va_P D vwCl (wdPg cI cJ ad pg_codes pg_length) H → va_D A (wdPg cI cJ ad pg_codes pg_length) → va_S A s.heap H locs → lv_has ls 8 [(0, .ref (ad 1)), (2, .int r2), (3, .int r5), (4, .int x4_a31), (5, .int x5_a31)] → W p l e rm_X4_endsNewPair s m args below meth c H locs 0 0 Q (F0 m 31 ls []) := by
      intro x4_a31
      intro n
      induction n with
      | zero =>
        intro x5_a31 out h0
        exact oo_n h0
      | succ n ih =>
        intro x5_a31 out hf kr kk H locs ls hP hD hS hl
        rw [f_X4_endsNewPair_L31_s] at hf
        refine lv_iload hx hb dX4_endsNewPair_31 (lv_at hl 4 rfl) ?_
        refine lv_iload hx hb dX4_endsNewPair_33 (lv_at hl 3 rfl) ?_
        refine lv_icmp_ge (tgt := 86) hx hb dX4_endsNewPair_35 (by decide) (fun c9 => ?_) (fun c9 => ?_)
        · have hf := oo_t hf c9
          exact kk () (oo_s hf).symm _ _ _ hP hD hS (lv_sub hl [] rfl)
        · have hf := oo_f hf c9
          refine lv_aload_n hx hb dX4_endsNewPair_38 rfl (lv_at hl 0 rfl) ?_
          refine lv_iload hx hb dX4_endsNewPair_39 (lv_at hl 4 rfl) ?_
          obtain ⟨r11, h10, hf⟩ := oo_b hf
          try dsimp only at hf
          have F : Fr D A _ (wdPg cI cJ ad pg_codes pg_length) (wdPg cI cJ ad pg_codes pg_length) (wdPg cI cJ ad pg_codes pg_length) := fr_self hP hD hS hA
          refine kI F hS (rV (q := (RX4, TX4, 2)) (As := [.int x5_a31]) (rest := []) ⟨hx, hb, hml, hown, hts⟩ hK hN F (c_X4_firstOfPair l D cI cJ ad _ (pg_codes := pg_codes) (pg_length := pg_length) x5_a31 (o_res := r11) h10) (cwV 1 hts gX4_endsNewPair_X4_firstOfPair rfl rfl rfl (by decide +kernel) ⟨Nat.le_of_ble_eq_true rfl, Nat.le_of_ble_eq_true rfl⟩) (ci := 4) rfl rfl rfl hl.1 rfl (Nat.le_of_ble_eq_true rfl) dX4_endsNewPair_41 ⟨Nat.zero_le _, Nat.zero_le _⟩) (fun H locs hP hD hS => ?_)
          refine lv_istore (lv' := [(6, .int r11), (0, .ref (ad 1)), (2, .int r2), (3, .int r5), (4, .int x4_a31), (5, .int x5_a31)]) hx hb dX4_endsNewPair_44 hl (by decide) rfl (fun ls hl => ?_)
          refine lv_aload_n hx hb dX4_endsNewPair_46 rfl (lv_at hl 1 rfl) ?_
          refine lv_iload hx hb dX4_endsNewPair_47 (lv_at hl 5 rfl) ?_
          obtain ⟨r14, h13, hf⟩ := oo_b hf
          try dsimp only at hf
          have F : Fr D A _ (wdPg cI cJ ad pg_codes pg_length) (wdPg cI cJ ad pg_codes pg_length) (wdPg cI cJ ad pg_codes pg_length) := fr_self hP hD hS hA
          refine kI F hS (rV (q := (RX4, TX4, 2)) (As := [.int x5_a31]) (rest := []) ⟨hx, hb, hml, hown, hts⟩ hK hN F (c_X4_secondOfPair l D cI cJ ad _ (pg_codes := pg_codes) (pg_length := pg_length) x5_a31 (o_res := r14) h13) (cwV 1 hts gX4_endsNewPair_X4_secondOfPair rfl rfl rfl (by decide +kernel) ⟨Nat.le_of_ble_eq_true rfl, Nat.le_of_ble_eq_true rfl⟩) (ci := 4) rfl rfl rfl hl.1 rfl (Nat.le_of_ble_eq_true rfl) dX4_endsNewPair_49 ⟨Nat.zero_le _, Nat.zero_le _⟩) (fun H locs hP hD hS => ?_)
          refine lv_istore (lv' := [(7, .int r14), (6, .int r11), (0, .ref (ad 1)), (2, .int r2), (3, .int r5), (4, .int x4_a31), (5, .int x5_a31)]) hx hb dX4_endsNewPair_52 hl (by decide) rfl (fun ls hl => ?_)
          refine lv_iload hx hb dX4_endsNewPair_54 (lv_at hl 1 rfl) ?_
          refine lv_iload_n hx hb dX4_endsNewPair_56 rfl (lv_at hl 3 rfl) ?_
          refine lv_icmp_ne (tgt := 66) hx hb dX4_endsNewPair_57 (by decide) (fun c16 => ?_) (fun c16 => ?_)
          · have hf := oo_f hf c16
            refine lv_iload hx hb dX4_endsNewPair_66 (lv_at hl 1 rfl) ?_
            refine lv_iload_n hx hb dX4_endsNewPair_68 rfl (lv_at hl 4 rfl) ?_
            refine lv_icmp_ne (tgt := 80) hx hb dX4_endsNewPair_69 (by decide) (fun c17 => ?_) (fun c17 => ?_)
            · have hf := oo_f hf c17
              refine lv_iinc (v := (x5_a31 + (1 : Int32))) (lv' := [(5, .int (x5_a31 + (1 : Int32))), (7, .int r14), (6, .int r11), (0, .ref (ad 1)), (2, .int r2), (3, .int r5), (4, .int x4_a31)]) hx hb dX4_endsNewPair_80 hl (k := 6) rfl rfl (by decide) rfl (fun ls hl => ?_)
              refine lv_goto (tgt := 31) hx hb dX4_endsNewPair_83 (by decide) ?_
              exact ih (x5_a31 + (1 : Int32)) _ hf kr kk _ _ _ hP hD hS (lv_sub hl [3, 4, 5, 6, 0] rfl)
            · have hf := oo_t hf c17
              refine lv_iload hx hb dX4_endsNewPair_72 (lv_at hl 0 rfl) ?_
              refine lv_iload_n hx hb dX4_endsNewPair_74 rfl (lv_at hl 3 rfl) ?_
              refine lv_icmp_ne (tgt := 80) hx hb dX4_endsNewPair_75 (by decide) (fun c18 => ?_) (fun c18 => ?_)
              · have hf := oo_f hf c18
                refine lv_iinc (v := (x5_a31 + (1 : Int32))) (lv' := [(5, .int (x5_a31 + (1 : Int32))), (7, .int r14), (6, .int r11), (0, .ref (ad 1)), (2, .int r2), (3, .int r5), (4, .int x4_a31)]) hx hb dX4_endsNewPair_80 hl (k := 6) rfl rfl (by decide) rfl (fun ls hl => ?_)
                refine lv_goto (tgt := 31) hx hb dX4_endsNewPair_83 (by decide) ?_
                exact ih (x5_a31 + (1 : Int32)) _ hf kr kk _ _ _ hP hD hS (lv_sub hl [3, 4, 5, 6, 0] rfl)
              · have hf := oo_t hf c18
                refine lv_iconst (v := (0 : Int32)) hx hb dX4_endsNewPair_78 (by decide) ?_
                exact kr (0 : Int32) (oo_s hf).symm _ _ _ _ (Or.inl rfl) dX4_endsNewPair_79 hP hD hS
          · have hf := oo_t hf c16
            refine lv_iload hx hb dX4_endsNewPair_60 (lv_at hl 0 rfl) ?_
            refine lv_iload_n hx hb dX4_endsNewPair_62 rfl (lv_at hl 4 rfl) ?_
            refine lv_icmp_eq (tgt := 78) hx hb dX4_endsNewPair_63 (by decide) (fun c19 => ?_) (fun c19 => ?_)
            · have hf := oo_t hf c19
              refine lv_iconst (v := (0 : Int32)) hx hb dX4_endsNewPair_78 (by decide) ?_
              exact kr (0 : Int32) (oo_s hf).symm _ _ _ _ (Or.inl rfl) dX4_endsNewPair_79 hP hD hS
            · have hf := oo_f hf c19
              refine lv_iload hx hb dX4_endsNewPair_66 (lv_at hl 1 rfl) ?_
              refine lv_iload_n hx hb dX4_endsNewPair_68 rfl (lv_at hl 4 rfl) ?_
              refine lv_icmp_ne (tgt := 80) hx hb dX4_endsNewPair_69 (by decide) (fun c20 => ?_) (fun c20 => ?_)
              · have hf := oo_f hf c20
                refine lv_iinc (v := (x5_a31 + (1 : Int32))) (lv' := [(5, .int (x5_a31 + (1 : Int32))), (7, .int r14), (6, .int r11), (0, .ref (ad 1)), (2, .int r2), (3, .int r5), (4, .int x4_a31)]) hx hb dX4_endsNewPair_80 hl (k := 6) rfl rfl (by decide) rfl (fun ls hl => ?_)
                refine lv_goto (tgt := 31) hx hb dX4_endsNewPair_83 (by decide) ?_
                exact ih (x5_a31 + (1 : Int32)) _ hf kr kk _ _ _ hP hD hS (lv_sub hl [3, 4, 5, 6, 0] rfl)
              · have hf := oo_t hf c20
                refine lv_iload hx hb dX4_endsNewPair_72 (lv_at hl 0 rfl) ?_
                refine lv_iload_n hx hb dX4_endsNewPair_74 rfl (lv_at hl 3 rfl) ?_
                refine lv_icmp_ne (tgt := 80) hx hb dX4_endsNewPair_75 (by decide) (fun c21 => ?_) (fun c21 => ?_)
                · have hf := oo_f hf c21
                  refine lv_iinc (v := (x5_a31 + (1 : Int32))) (lv' := [(5, .int (x5_a31 + (1 : Int32))), (7, .int r14), (6, .int r11), (0, .ref (ad 1)), (2, .int r2), (3, .int r5), (4, .int x4_a31)]) hx hb dX4_endsNewPair_80 hl (k := 6) rfl rfl (by decide) rfl (fun ls hl => ?_)
                  refine lv_goto (tgt := 31) hx hb dX4_endsNewPair_83 (by decide) ?_
                  exact ih (x5_a31 + (1 : Int32)) _ hf kr kk _ _ _ hP hD hS (lv_sub hl [3, 4, 5, 6, 0] rfl)
                · have hf := oo_t hf c21
                  refine lv_iconst (v := (0 : Int32)) hx hb dX4_endsNewPair_78 (by decide) ?_
                  exact kr (0 : Int32) (oo_s hf).symm _ _ _ _ (Or.inl rfl) dX4_endsNewPair_79 hP hD hS
    obtain ⟨out, h22, hf⟩ := oo_b hf
    refine lp8 ((x1 / (3 : Int32)) - (1 : Int32)) 100 (0 : Int32) out h22 (fun rv23 eo => ?_) (fun _ eo H locs ls hP hD hS hl => ?_) _ _ _ hP hD hS (lv_sub hl [4, 3, 2, 1, 0] rfl)
    · subst eo
      have hf := oo_s hf
      subst hf
      exact hret
    · subst eo
      try dsimp only at hf
      refine lv_iconst (v := (1 : Int32)) hx hb dX4_endsNewPair_86 (by decide) ?_
      cases hf
      exact hret _ _ _ _ (Or.inr rfl) dX4_endsNewPair_87 hP hD hS
  · have hf := oo_t hf c7
    refine lv_iconst (v := (0 : Int32)) hx hb dX4_endsNewPair_19 (by decide) ?_
    cases hf
    exact hret _ _ _ _ (Or.inl rfl) dX4_endsNewPair_20 hP hD hS
def f_X4_fits (pg_codes : Nat → Int32) (pg_length : Int32) (x1 : Int32) : Option (Int32) :=
  if x1 = (0 : Int32) then
    Option.bind (f_X4_digitAt pg_codes pg_length (0 : Int32)) fun r21 =>
    if r21 < (2 : Int32) then
      some (0 : Int32)
    else
      Option.bind (f_X4_digitAt pg_codes pg_length (0 : Int32)) fun r25 =>
      if (6 : Int32) < r25 then
        some (0 : Int32)
      else
        some (1 : Int32)
  else
    if (x1 - x1 / (3 : Int32) * (3 : Int32)) = (1 : Int32) then
      Option.bind (f_X4_codeAt pg_codes pg_length x1) fun r5 =>
      if r5 = (44 : Int32) then
        some (1 : Int32)
      else
        some (0 : Int32)
    else
      if (x1 - x1 / (3 : Int32) * (3 : Int32)) = (2 : Int32) then
        Option.bind (f_X4_isNodeAt pg_codes pg_length x1) fun r10 =>
        some r10
      else
        Option.bind (f_X4_isNodeAt pg_codes pg_length x1) fun r13 =>
        if r13 = (0 : Int32) then
          some (0 : Int32)
        else
          Option.bind (f_X4_endsNewPair pg_codes pg_length x1) fun r17 =>
          if r17 = (0 : Int32) then
            some (0 : Int32)
          else
            some (1 : Int32)
abbrev rm_X4_fits : Room := { frames := 4, cells := 0, slots := 0, locals := 90 }
set_option maxHeartbeats 4000000 in
set_option maxRecDepth 100000 in
theorem c_X4_fits (l : Launch) (D : va_G) (cI cJ : ClassId) (ad : Nat → Nat) (sz : Nat) {pg_codes : Nat → Int32} {pg_length : Int32} (x1 : Int32) {o_res : Int32} (hf : f_X4_fits pg_codes pg_length x1 = some o_res) : CtZ l yX4_fits wsX4_fits rm_X4_fits D cI cJ [.ref (ad 1), .int x1] (wdPg cI cJ ad pg_codes pg_length) sz o_res (wdPg cI cJ ad pg_codes pg_length) := by
  refine ctZ_of (cc := cX4_fits) (maxL := 2) (by decide) rfl (Nat.le_of_ble_eq_true rfl) ?_
  intro p e s m below meth c Q A hx hb hml hown hts hK hN hA hret ls hl hP hD hS
  obtain ⟨args, hargs⟩ : ∃ a : Array Value, a = [.ref (ad 1), .int x1].toArray := ⟨_, rfl⟩
  rw [← hargs] at hts hret ⊢
  have hown : s.vm.findClass RX4 = some m.cls := hown
  have hl : lv_has ls 2 [(0, .ref (ad 1)), (1, .int x1)] := hl
  unfold f_X4_fits at hf
  refine lv_iload_n hx hb dX4_fits_0 rfl (lv_at hl 1 rfl) ?_
  refine lv_if_ne (tgt := 29) hx hb dX4_fits_1 (by decide) (fun c1 => ?_) (fun c1 => ?_)
  · have hf := oo_f hf c1
    refine lv_iload_n hx hb dX4_fits_29 rfl (lv_at hl 1 rfl) ?_
    refine lv_iconst (v := (3 : Int32)) hx hb dX4_fits_30 (by decide) ?_
    refine lv_irem hx hb dX4_fits_31 (by decide) ?_
    by_cases c3 : (x1 - x1 / (3 : Int32) * (3 : Int32)) = (1 : Int32)
    · have hf := oo_t hf c3
      refine lv_lookup (off := 28) (tgt := 60) hx hb dX4_fits_32 (by decide) (by rw [c3] <;> rfl) (by decide) ?_
      refine lv_aload_n hx hb dX4_fits_60 rfl (lv_at hl 0 rfl) ?_
      refine lv_iload_n hx hb dX4_fits_61 rfl (lv_at hl 1 rfl) ?_
      obtain ⟨r5, h4, hf⟩ := oo_b hf
      try dsimp only at hf
      have F : Fr D A _ (wdPg cI cJ ad pg_codes pg_length) (wdPg cI cJ ad pg_codes pg_length) (wdPg cI cJ ad pg_codes pg_length) := fr_self hP hD hS hA
      refine kI F hS (rV (q := (RX4, TX4, 2)) (As := [.int x1]) (rest := []) ⟨hx, hb, hml, hown, hts⟩ hK hN F (c_X4_codeAt l D cI cJ ad _ (pg_codes := pg_codes) (pg_length := pg_length) x1 (o_res := r5) h4) (cwV 1 hts gX4_fits_X4_codeAt rfl rfl rfl (by decide +kernel) ⟨Nat.le_of_ble_eq_true rfl, Nat.le_of_ble_eq_true rfl⟩) (ci := 4) rfl rfl rfl hl.1 rfl (Nat.le_of_ble_eq_true rfl) dX4_fits_62 ⟨Nat.zero_le _, Nat.zero_le _⟩) (fun H locs hP hD hS => ?_)
      refine lv_bipush (v := (44 : Int32)) hx hb dX4_fits_65 (by decide) ?_
      refine lv_icmp_ne (tgt := 74) hx hb dX4_fits_67 (by decide) (fun c7 => ?_) (fun c7 => ?_)
      · have hf := oo_f hf c7
        refine lv_iconst (v := (0 : Int32)) hx hb dX4_fits_74 (by decide) ?_
        cases hf
        exact hret _ _ _ _ (Or.inl rfl) dX4_fits_75 hP hD hS
      · have hf := oo_t hf c7
        refine lv_iconst (v := (1 : Int32)) hx hb dX4_fits_70 (by decide) ?_
        refine lv_goto (tgt := 75) hx hb dX4_fits_71 (by decide) ?_
        cases hf
        exact hret _ _ _ _ (Or.inr rfl) dX4_fits_75 hP hD hS
    · have hf := oo_f hf c3
      by_cases c8 : (x1 - x1 / (3 : Int32) * (3 : Int32)) = (2 : Int32)
      · have hf := oo_t hf c8
        refine lv_lookup (off := 44) (tgt := 76) hx hb dX4_fits_32 (by decide) (by rw [c8] <;> rfl) (by decide) ?_
        refine lv_aload_n hx hb dX4_fits_76 rfl (lv_at hl 0 rfl) ?_
        refine lv_iload_n hx hb dX4_fits_77 rfl (lv_at hl 1 rfl) ?_
        obtain ⟨r10, h9, hf⟩ := oo_b hf
        try dsimp only at hf
        have F : Fr D A _ (wdPg cI cJ ad pg_codes pg_length) (wdPg cI cJ ad pg_codes pg_length) (wdPg cI cJ ad pg_codes pg_length) := fr_self hP hD hS hA
        refine kZ F hS (rV (q := (RX4, TX4, 2)) (As := [.int x1]) (rest := []) ⟨hx, hb, hml, hown, hts⟩ hK hN F (c_X4_isNodeAt l D cI cJ ad _ (pg_codes := pg_codes) (pg_length := pg_length) x1 (o_res := r10) h9) (cwV 1 hts gX4_fits_X4_isNodeAt rfl rfl rfl (by decide +kernel) ⟨Nat.le_of_ble_eq_true rfl, Nat.le_of_ble_eq_true rfl⟩) (ci := 4) rfl rfl rfl hl.1 rfl (Nat.le_of_ble_eq_true rfl) dX4_fits_78 ⟨Nat.zero_le _, Nat.zero_le _⟩) (fun H locs hb11 hP hD hS => ?_)
        cases hf
        exact hret _ _ _ _ hb11 dX4_fits_81 hP hD hS
      · have hf := oo_f hf c8
        refine lv_lookup (off := 50) (tgt := 82) hx hb dX4_fits_32 (by decide) ((lv_osw c3 rfl).trans ((lv_osw c8 rfl).trans (rfl))) (by decide) ?_
        refine lv_aload_n hx hb dX4_fits_82 rfl (lv_at hl 0 rfl) ?_
        refine lv_iload_n hx hb dX4_fits_83 rfl (lv_at hl 1 rfl) ?_
        obtain ⟨r13, h12, hf⟩ := oo_b hf
        try dsimp only at hf
        have F : Fr D A _ (wdPg cI cJ ad pg_codes pg_length) (wdPg cI cJ ad pg_codes pg_length) (wdPg cI cJ ad pg_codes pg_length) := fr_self hP hD hS hA
        refine kZ F hS (rV (q := (RX4, TX4, 2)) (As := [.int x1]) (rest := []) ⟨hx, hb, hml, hown, hts⟩ hK hN F (c_X4_isNodeAt l D cI cJ ad _ (pg_codes := pg_codes) (pg_length := pg_length) x1 (o_res := r13) h12) (cwV 1 hts gX4_fits_X4_isNodeAt rfl rfl rfl (by decide +kernel) ⟨Nat.le_of_ble_eq_true rfl, Nat.le_of_ble_eq_true rfl⟩) (ci := 4) rfl rfl rfl hl.1 rfl (Nat.le_of_ble_eq_true rfl) dX4_fits_84 ⟨Nat.zero_le _, Nat.zero_le _⟩) (fun H locs hb14 hP hD hS => ?_)
        refine lv_if_eq (tgt := 102) hx hb dX4_fits_87 (by decide) (fun c15 => ?_) (fun c15 => ?_)
        · have hf := oo_t hf c15
          refine lv_iconst (v := (0 : Int32)) hx hb dX4_fits_102 (by decide) ?_
          cases hf
          exact hret _ _ _ _ (Or.inl rfl) dX4_fits_103 hP hD hS
        · have hf := oo_f hf c15
          refine lv_aload_n hx hb dX4_fits_90 rfl (lv_at hl 0 rfl) ?_
          refine lv_iload_n hx hb dX4_fits_91 rfl (lv_at hl 1 rfl) ?_
          obtain ⟨r17, h16, hf⟩ := oo_b hf
          try dsimp only at hf
          have F : Fr D A _ (wdPg cI cJ ad pg_codes pg_length) (wdPg cI cJ ad pg_codes pg_length) (wdPg cI cJ ad pg_codes pg_length) := fr_self hP hD hS hA
          refine kZ F hS (rV (q := (RX4, TX4, 2)) (As := [.int x1]) (rest := []) ⟨hx, hb, hml, hown, hts⟩ hK hN F (c_X4_endsNewPair l D cI cJ ad _ (pg_codes := pg_codes) (pg_length := pg_length) x1 (o_res := r17) h16) (cwV 1 hts gX4_fits_X4_endsNewPair rfl rfl rfl (by decide +kernel) ⟨Nat.le_of_ble_eq_true rfl, Nat.le_of_ble_eq_true rfl⟩) (ci := 4) rfl rfl rfl hl.1 rfl (Nat.le_of_ble_eq_true rfl) dX4_fits_92 ⟨Nat.zero_le _, Nat.zero_le _⟩) (fun H locs hb18 hP hD hS => ?_)
          refine lv_if_eq (tgt := 102) hx hb dX4_fits_95 (by decide) (fun c19 => ?_) (fun c19 => ?_)
          · have hf := oo_t hf c19
            refine lv_iconst (v := (0 : Int32)) hx hb dX4_fits_102 (by decide) ?_
            cases hf
            exact hret _ _ _ _ (Or.inl rfl) dX4_fits_103 hP hD hS
          · have hf := oo_f hf c19
            refine lv_iconst (v := (1 : Int32)) hx hb dX4_fits_98 (by decide) ?_
            refine lv_goto (tgt := 103) hx hb dX4_fits_99 (by decide) ?_
            cases hf
            exact hret _ _ _ _ (Or.inr rfl) dX4_fits_103 hP hD hS
  · have hf := oo_t hf c1
    refine lv_aload_n hx hb dX4_fits_4 rfl (lv_at hl 0 rfl) ?_
    refine lv_iconst (v := (0 : Int32)) hx hb dX4_fits_5 (by decide) ?_
    obtain ⟨r21, h20, hf⟩ := oo_b hf
    try dsimp only at hf
    have F : Fr D A _ (wdPg cI cJ ad pg_codes pg_length) (wdPg cI cJ ad pg_codes pg_length) (wdPg cI cJ ad pg_codes pg_length) := fr_self hP hD hS hA
    refine kI F hS (rV (q := (RX4, TX4, 2)) (As := [.int (0 : Int32)]) (rest := []) ⟨hx, hb, hml, hown, hts⟩ hK hN F (c_X4_digitAt l D cI cJ ad _ (pg_codes := pg_codes) (pg_length := pg_length) (0 : Int32) (o_res := r21) h20) (cwV 1 hts gX4_fits_X4_digitAt rfl rfl rfl (by decide +kernel) ⟨Nat.le_of_ble_eq_true rfl, Nat.le_of_ble_eq_true rfl⟩) (ci := 4) rfl rfl rfl hl.1 rfl (Nat.le_of_ble_eq_true rfl) dX4_fits_6 ⟨Nat.zero_le _, Nat.zero_le _⟩) (fun H locs hP hD hS => ?_)
    refine lv_iconst (v := (2 : Int32)) hx hb dX4_fits_9 (by decide) ?_
    refine lv_icmp_lt (tgt := 27) hx hb dX4_fits_10 (by decide) (fun c23 => ?_) (fun c23 => ?_)
    · have hf := oo_t hf c23
      refine lv_iconst (v := (0 : Int32)) hx hb dX4_fits_27 (by decide) ?_
      cases hf
      exact hret _ _ _ _ (Or.inl rfl) dX4_fits_28 hP hD hS
    · have hf := oo_f hf c23
      refine lv_aload_n hx hb dX4_fits_13 rfl (lv_at hl 0 rfl) ?_
      refine lv_iconst (v := (0 : Int32)) hx hb dX4_fits_14 (by decide) ?_
      obtain ⟨r25, h24, hf⟩ := oo_b hf
      try dsimp only at hf
      have F : Fr D A _ (wdPg cI cJ ad pg_codes pg_length) (wdPg cI cJ ad pg_codes pg_length) (wdPg cI cJ ad pg_codes pg_length) := fr_self hP hD hS hA
      refine kI F hS (rV (q := (RX4, TX4, 2)) (As := [.int (0 : Int32)]) (rest := []) ⟨hx, hb, hml, hown, hts⟩ hK hN F (c_X4_digitAt l D cI cJ ad _ (pg_codes := pg_codes) (pg_length := pg_length) (0 : Int32) (o_res := r25) h24) (cwV 1 hts gX4_fits_X4_digitAt rfl rfl rfl (by decide +kernel) ⟨Nat.le_of_ble_eq_true rfl, Nat.le_of_ble_eq_true rfl⟩) (ci := 4) rfl rfl rfl hl.1 rfl (Nat.le_of_ble_eq_true rfl) dX4_fits_15 ⟨Nat.zero_le _, Nat.zero_le _⟩) (fun H locs hP hD hS => ?_)
      refine lv_bipush (v := (6 : Int32)) hx hb dX4_fits_18 (by decide) ?_
      refine lv_icmp_gt (tgt := 27) hx hb dX4_fits_20 (by decide) (fun c27 => ?_) (fun c27 => ?_)
      · have hf := oo_t hf c27
        refine lv_iconst (v := (0 : Int32)) hx hb dX4_fits_27 (by decide) ?_
        cases hf
        exact hret _ _ _ _ (Or.inl rfl) dX4_fits_28 hP hD hS
      · have hf := oo_f hf c27
        refine lv_iconst (v := (1 : Int32)) hx hb dX4_fits_23 (by decide) ?_
        refine lv_goto (tgt := 28) hx hb dX4_fits_24 (by decide) ?_
        cases hf
        exact hret _ _ _ _ (Or.inr rfl) dX4_fits_28 hP hD hS
def f_X4_firstWrong_L2 (pg_codes : Nat → Int32) (pg_length : Int32) : Nat → Int32 → Option ((Int32) ⊕ (Unit))
  | 0, _ => none
  | n + 1, x1_a2 =>
      if pg_length ≤ x1_a2 then
        some (.inr ())
      else
        Option.bind (f_X4_fits pg_codes pg_length x1_a2) fun r4 =>
        if r4 = (0 : Int32) then
          some (.inl x1_a2)
        else
          f_X4_firstWrong_L2 pg_codes pg_length n (x1_a2 + (1 : Int32))
theorem f_X4_firstWrong_L2_s (pg_codes : Nat → Int32) (pg_length : Int32) (n : Nat) (x1_a2 : Int32) : f_X4_firstWrong_L2 pg_codes pg_length (n + 1) x1_a2 =
      (if pg_length ≤ x1_a2 then
        some (.inr ())
      else
        Option.bind (f_X4_fits pg_codes pg_length x1_a2) fun r4 =>
        if r4 = (0 : Int32) then
          some (.inl x1_a2)
        else
          f_X4_firstWrong_L2 pg_codes pg_length n (x1_a2 + (1 : Int32))) := rfl
def f_X4_firstWrong (pg_codes : Nat → Int32) (pg_length : Int32) : Option (Int32) :=
  Option.bind (f_X4_firstWrong_L2 pg_codes pg_length 100 (0 : Int32)) fun z => match z with
  | .inl r => some r
  | .inr _ =>
    some pg_length
abbrev rm_X4_firstWrong : Room := { frames := 5, cells := 0, slots := 0, locals := 111 }
set_option maxHeartbeats 4000000 in
set_option maxRecDepth 100000 in
theorem c_X4_firstWrong (l : Launch) (D : va_G) (cI cJ : ClassId) (ad : Nat → Nat) (sz : Nat) {pg_codes : Nat → Int32} {pg_length : Int32}  {o_res : Int32} (hf : f_X4_firstWrong pg_codes pg_length = some o_res) : CtI l yX4_firstWrong wsX4_firstWrong rm_X4_firstWrong D cI cJ [.ref (ad 1)] (wdPg cI cJ ad pg_codes pg_length) sz o_res (wdPg cI cJ ad pg_codes pg_length) := by
  refine ctI_of (cc := cX4_firstWrong) (maxL := 2) (by decide) rfl (Nat.le_of_ble_eq_true rfl) ?_
  intro p e s m below meth c Q A hx hb hml hown hts hK hN hA hret ls hl hP hD hS
  obtain ⟨args, hargs⟩ : ∃ a : Array Value, a = [.ref (ad 1)].toArray := ⟨_, rfl⟩
  rw [← hargs] at hts hret ⊢
  have hown : s.vm.findClass RX4 = some m.cls := hown
  have hl : lv_has ls 2 [(0, .ref (ad 1))] := hl
  have hin_X4 : ∀ w ∈ wsX40, w ∈ wsX4_firstWrong := fun _ h => List.mem_cons_of_mem _ (List.mem_append_right _ h)
  have fl_15 : (Cond.fieldLink RX4 15 "FoldedWays$Page" "length" "I").before args s = true := hat hts 1 rfl
  unfold f_X4_firstWrong at hf
  refine lv_iconst (v := (0 : Int32)) hx hb dX4_firstWrong_0 (by decide) ?_
  refine lv_istore_n (lv' := [(1, .int (0 : Int32)), (0, .ref (ad 1))]) hx hb dX4_firstWrong_1 rfl hl (by decide) rfl (fun ls hl => ?_)
  have lp1 : ∀ (n : Nat) (x1_a2 : Int32) (out : (Int32) ⊕ (Unit)), f_X4_firstWrong_L2 pg_codes pg_length n x1_a2 = some out → (∀ rv : Int32, out = .inl rv → ∀ (pc : Nat) (ls : Array Slot) (H : Heap) (locs : List Loc), decode cX4_firstWrong pc = .ok (.ireturn, 1) → va_P D vwCl (wdPg cI cJ ad pg_codes pg_length) H → va_D A (wdPg cI cJ ad pg_codes pg_length) → va_S A s.heap H locs → W p l e rm_X4_firstWrong s m args below meth c H locs 0 0 Q (F0 m pc ls [.int (rv)])) → (∀ (_ : Unit), out = .inr () → ∀ (H : Heap) (locs : List Loc) (ls : Array Slot), va_P D vwCl (wdPg cI cJ ad pg_codes pg_length) H → va_D A (wdPg cI cJ ad pg_codes pg_length) → va_S A s.heap H locs → lv_has ls 2 [(0, .ref (ad 1))] → W p l e rm_X4_firstWrong s m args below meth c H locs 0 0 Q (F0 m 26 ls [])) → ∀ (H : Heap) (locs : List Loc) (ls : Array Slot), va_P D vwCl (wdPg cI cJ ad pg_codes pg_length) H → va_D A (wdPg cI cJ ad pg_codes pg_length) → va_S A s.heap H locs → lv_has ls 2 [(0, .ref (ad 1)), (1, .int x1_a2)] → W p l e rm_X4_firstWrong s m args below meth c H locs 0 0 Q (F0 m 2 ls []) := by
    intro n
    induction n with
    | zero =>
      intro x1_a2 out h0
      exact oo_n h0
    | succ n ih =>
      intro x1_a2 out hf kr kk H locs ls hP hD hS hl
      rw [f_X4_firstWrong_L2_s] at hf
      refine lv_iload_n hx hb dX4_firstWrong_2 rfl (lv_at hl 1 rfl) ?_
      refine lv_aload_n hx hb dX4_firstWrong_3 rfl (lv_at hl 0 rfl) ?_
      refine va_get (ci := 4) (v := .int pg_length) (C := RX4) (T := TX4) (N := 2) hx hb hts hin_X4 hown hK hP 0 rfl rfl 1 (by decide) fl_15 (fun _ h9 => h9) rfl dX4_firstWrong_4 ?_
      refine lv_icmp_ge (tgt := 26) hx hb dX4_firstWrong_7 (by decide) (fun c2 => ?_) (fun c2 => ?_)
      · have hf := oo_t hf c2
        exact kk () (oo_s hf).symm _ _ _ hP hD hS (lv_sub hl [0] rfl)
      · have hf := oo_f hf c2
        refine lv_aload_n hx hb dX4_firstWrong_10 rfl (lv_at hl 0 rfl) ?_
        refine lv_iload_n hx hb dX4_firstWrong_11 rfl (lv_at hl 1 rfl) ?_
        obtain ⟨r4, h3, hf⟩ := oo_b hf
        try dsimp only at hf
        have F : Fr D A _ (wdPg cI cJ ad pg_codes pg_length) (wdPg cI cJ ad pg_codes pg_length) (wdPg cI cJ ad pg_codes pg_length) := fr_self hP hD hS hA
        refine kZ F hS (rV (q := (RX4, TX4, 2)) (As := [.int x1_a2]) (rest := []) ⟨hx, hb, hml, hown, hts⟩ hK hN F (c_X4_fits l D cI cJ ad _ (pg_codes := pg_codes) (pg_length := pg_length) x1_a2 (o_res := r4) h3) (cwV 1 hts gX4_firstWrong_X4_fits rfl rfl rfl (by decide +kernel) ⟨Nat.le_of_ble_eq_true rfl, Nat.le_of_ble_eq_true rfl⟩) (ci := 4) rfl rfl rfl hl.1 rfl (Nat.le_of_ble_eq_true rfl) dX4_firstWrong_12 ⟨Nat.zero_le _, Nat.zero_le _⟩) (fun H locs hb5 hP hD hS => ?_)
        refine lv_if_ne (tgt := 20) hx hb dX4_firstWrong_15 (by decide) (fun c6 => ?_) (fun c6 => ?_)
        · have hf := oo_f hf c6
          refine lv_iinc (v := (x1_a2 + (1 : Int32))) (lv' := [(1, .int (x1_a2 + (1 : Int32))), (0, .ref (ad 1))]) hx hb dX4_firstWrong_20 hl (k := 1) rfl rfl (by decide) rfl (fun ls hl => ?_)
          refine lv_goto (tgt := 2) hx hb dX4_firstWrong_23 (by decide) ?_
          exact ih (x1_a2 + (1 : Int32)) _ hf kr kk _ _ _ hP hD hS (lv_sub hl [1, 0] rfl)
        · have hf := oo_t hf c6
          refine lv_iload_n hx hb dX4_firstWrong_18 rfl (lv_at hl 1 rfl) ?_
          exact kr x1_a2 (oo_s hf).symm _ _ _ _ dX4_firstWrong_19 hP hD hS
  obtain ⟨out, h7, hf⟩ := oo_b hf
  refine lp1  100 (0 : Int32) out h7 (fun rv8 eo => ?_) (fun _ eo H locs ls hP hD hS hl => ?_) _ _ _ hP hD hS (lv_sub hl [1, 0] rfl)
  · subst eo
    have hf := oo_s hf
    subst hf
    exact hret
  · subst eo
    try dsimp only at hf
    refine lv_aload_n hx hb dX4_firstWrong_26 rfl (lv_at hl 0 rfl) ?_
    refine va_get (ci := 4) (v := .int pg_length) (C := RX4) (T := TX4) (N := 2) hx hb hts hin_X4 hown hK hP 0 rfl rfl 1 (by decide) fl_15 (fun _ h9 => h9) rfl dX4_firstWrong_27 ?_
    cases hf
    exact hret _ _ _ _ dX4_firstWrong_30 hP hD hS
def f_X4_isWhole (pg_codes : Nat → Int32) (pg_length : Int32) : Option (Int32) :=
  if pg_length ≤ (3 : Int32) then
    some (0 : Int32)
  else
    if (pg_length - pg_length / (3 : Int32) * (3 : Int32)) = (1 : Int32) then
      Option.bind (f_X4_firstWrong pg_codes pg_length) fun r4 =>
      if r4 = pg_length then
        some (1 : Int32)
      else
        some (0 : Int32)
    else
      some (0 : Int32)
abbrev rm_X4_isWhole : Room := { frames := 6, cells := 0, slots := 0, locals := 132 }
set_option maxHeartbeats 4000000 in
set_option maxRecDepth 100000 in
theorem c_X4_isWhole (l : Launch) (D : va_G) (cI cJ : ClassId) (ad : Nat → Nat) (sz : Nat) {pg_codes : Nat → Int32} {pg_length : Int32}  {o_res : Int32} (hf : f_X4_isWhole pg_codes pg_length = some o_res) : CtZ l yX4_isWhole wsX4_isWhole rm_X4_isWhole D cI cJ [.ref (ad 1)] (wdPg cI cJ ad pg_codes pg_length) sz o_res (wdPg cI cJ ad pg_codes pg_length) := by
  refine ctZ_of (cc := cX4_isWhole) (maxL := 1) (by decide) rfl (Nat.le_of_ble_eq_true rfl) ?_
  intro p e s m below meth c Q A hx hb hml hown hts hK hN hA hret ls hl hP hD hS
  obtain ⟨args, hargs⟩ : ∃ a : Array Value, a = [.ref (ad 1)].toArray := ⟨_, rfl⟩
  rw [← hargs] at hts hret ⊢
  have hown : s.vm.findClass RX4 = some m.cls := hown
  have hl : lv_has ls 1 [(0, .ref (ad 1))] := hl
  have hin_X4 : ∀ w ∈ wsX40, w ∈ wsX4_isWhole := fun _ h => List.mem_cons_of_mem _ (List.mem_append_right _ h)
  have fl_15 : (Cond.fieldLink RX4 15 "FoldedWays$Page" "length" "I").before args s = true := hat hts 1 rfl
  unfold f_X4_isWhole at hf
  refine lv_aload_n hx hb dX4_isWhole_0 rfl (lv_at hl 0 rfl) ?_
  refine va_get (ci := 4) (v := .int pg_length) (C := RX4) (T := TX4) (N := 2) hx hb hts hin_X4 hown hK hP 0 rfl rfl 1 (by decide) fl_15 (fun _ h9 => h9) rfl dX4_isWhole_1 ?_
  refine lv_iconst (v := (3 : Int32)) hx hb dX4_isWhole_4 (by decide) ?_
  refine lv_icmp_le (tgt := 33) hx hb dX4_isWhole_5 (by decide) (fun c1 => ?_) (fun c1 => ?_)
  · have hf := oo_t hf c1
    refine lv_iconst (v := (0 : Int32)) hx hb dX4_isWhole_33 (by decide) ?_
    cases hf
    exact hret _ _ _ _ (Or.inl rfl) dX4_isWhole_34 hP hD hS
  · have hf := oo_f hf c1
    refine lv_aload_n hx hb dX4_isWhole_8 rfl (lv_at hl 0 rfl) ?_
    refine va_get (ci := 4) (v := .int pg_length) (C := RX4) (T := TX4) (N := 2) hx hb hts hin_X4 hown hK hP 0 rfl rfl 1 (by decide) fl_15 (fun _ h9 => h9) rfl dX4_isWhole_9 ?_
    refine lv_iconst (v := (3 : Int32)) hx hb dX4_isWhole_12 (by decide) ?_
    refine lv_irem hx hb dX4_isWhole_13 (by decide) ?_
    refine lv_iconst (v := (1 : Int32)) hx hb dX4_isWhole_14 (by decide) ?_
    refine lv_icmp_ne (tgt := 33) hx hb dX4_isWhole_15 (by decide) (fun c2 => ?_) (fun c2 => ?_)
    · have hf := oo_f hf c2
      refine lv_iconst (v := (0 : Int32)) hx hb dX4_isWhole_33 (by decide) ?_
      cases hf
      exact hret _ _ _ _ (Or.inl rfl) dX4_isWhole_34 hP hD hS
    · have hf := oo_t hf c2
      refine lv_aload_n hx hb dX4_isWhole_18 rfl (lv_at hl 0 rfl) ?_
      obtain ⟨r4, h3, hf⟩ := oo_b hf
      try dsimp only at hf
      have F : Fr D A _ (wdPg cI cJ ad pg_codes pg_length) (wdPg cI cJ ad pg_codes pg_length) (wdPg cI cJ ad pg_codes pg_length) := fr_self hP hD hS hA
      refine kI F hS (rV (q := (RX4, TX4, 2)) (As := []) (rest := []) ⟨hx, hb, hml, hown, hts⟩ hK hN F (c_X4_firstWrong l D cI cJ ad _ (pg_codes := pg_codes) (pg_length := pg_length)  (o_res := r4) h3) (cwV 0 hts gX4_isWhole_X4_firstWrong rfl rfl rfl (by decide +kernel) ⟨Nat.le_of_ble_eq_true rfl, Nat.le_of_ble_eq_true rfl⟩) (ci := 4) rfl rfl rfl hl.1 rfl (Nat.le_of_ble_eq_true rfl) dX4_isWhole_19 ⟨Nat.zero_le _, Nat.zero_le _⟩) (fun H locs hP hD hS => ?_)
      refine lv_aload_n hx hb dX4_isWhole_22 rfl (lv_at hl 0 rfl) ?_
      refine va_get (ci := 4) (v := .int pg_length) (C := RX4) (T := TX4) (N := 2) hx hb hts hin_X4 hown hK hP 0 rfl rfl 1 (by decide) fl_15 (fun _ h9 => h9) rfl dX4_isWhole_23 ?_
      refine lv_icmp_ne (tgt := 33) hx hb dX4_isWhole_26 (by decide) (fun c6 => ?_) (fun c6 => ?_)
      · have hf := oo_f hf c6
        refine lv_iconst (v := (0 : Int32)) hx hb dX4_isWhole_33 (by decide) ?_
        cases hf
        exact hret _ _ _ _ (Or.inl rfl) dX4_isWhole_34 hP hD hS
      · have hf := oo_t hf c6
        refine lv_iconst (v := (1 : Int32)) hx hb dX4_isWhole_29 (by decide) ?_
        refine lv_goto (tgt := 34) hx hb dX4_isWhole_30 (by decide) ?_
        cases hf
        exact hret _ _ _ _ (Or.inr rfl) dX4_isWhole_34 hP hD hS
def f_X5_letter (pg_codes : Nat → Int32) (pg_length : Int32) (x1 : Int32) : Option (Int32 × (Nat → Int32) × Int32) :=
  if x1 < (32 : Int32) then
    some ((-1002 : Int32), pg_codes, pg_length)
  else
    if x1 ≤ (126 : Int32) then
      if (f_X4_isFull pg_length) = (0 : Int32) then
        Option.bind (f_X4_append pg_codes pg_length x1) fun (pg_codes_6, pg_length_7) =>
        some ((f_X4_size pg_length_7), pg_codes_6, pg_length_7)
      else
        some ((-1004 : Int32), pg_codes, pg_length)
    else
      some ((-1002 : Int32), pg_codes, pg_length)
abbrev rm_X5_letter : Room := { frames := 1, cells := 0, slots := 0, locals := 21 }
set_option maxHeartbeats 4000000 in
set_option maxRecDepth 100000 in
theorem c_X5_letter (l : Launch) (D : va_G) (cI cJ : ClassId) (ad : Nat → Nat) (sz : Nat) {xx_netsRead xx_timesSent xx_passagesSent xx_astraySent xx_loopsSent : Int32} {pg_codes : Nat → Int32} {pg_length gr_nodes gr_links : Int32} {gr_start gr_end gr_linkBetween gr_wayLength gr_wayNext gr_wayLinks : Nat → Int32} {mk_width mk_drawn mk_seed : Int32} {mk_nextSeed : Int64} {mk_bits : Nat → Int64} {bn_links : Nat → Int32} {fl_foldBits fl_passages fl_astray fl_loops fl_steps fl_reached fl_matchingAside : Int32} (x1 : Int32) {o_res : Int32} {o_pg_codes : Nat → Int32} {o_pg_length : Int32} (hf : f_X5_letter pg_codes pg_length x1 = some (o_res, o_pg_codes, o_pg_length)) : CtI l yX5_letter wsX5_letter rm_X5_letter D cI cJ [.ref (ad 0), .int x1] (wdX cI cJ ad xx_netsRead xx_timesSent xx_passagesSent xx_astraySent xx_loopsSent pg_codes pg_length gr_nodes gr_links gr_start gr_end gr_linkBetween gr_wayLength gr_wayNext gr_wayLinks mk_width mk_drawn mk_seed mk_nextSeed mk_bits bn_links fl_foldBits fl_passages fl_astray fl_loops fl_steps fl_reached fl_matchingAside) sz o_res (wdX cI cJ ad xx_netsRead xx_timesSent xx_passagesSent xx_astraySent xx_loopsSent o_pg_codes o_pg_length gr_nodes gr_links gr_start gr_end gr_linkBetween gr_wayLength gr_wayNext gr_wayLinks mk_width mk_drawn mk_seed mk_nextSeed mk_bits bn_links fl_foldBits fl_passages fl_astray fl_loops fl_steps fl_reached fl_matchingAside) := by
  refine ctI_of (cc := cX5_letter) (maxL := 2) (by decide) rfl (Nat.le_of_ble_eq_true rfl) ?_
  intro p e s m below meth c Q A hx hb hml hown hts hK hN hA hret ls hl hP hD hS
  obtain ⟨args, hargs⟩ : ∃ a : Array Value, a = [.ref (ad 0), .int x1].toArray := ⟨_, rfl⟩
  rw [← hargs] at hts hret ⊢
  have hown : s.vm.findClass RX5 = some m.cls := hown
  have hl : lv_has ls 2 [(0, .ref (ad 0)), (1, .int x1)] := hl
  have hin_X5 : ∀ w ∈ wsX50, w ∈ wsX5_letter := fun _ h => List.mem_cons_of_mem _ (List.mem_append_left _ (List.mem_append_right _ h))
  have fl_10 : (Cond.fieldLink RX5 10 "FoldedWays" "page" "LFoldedWays$Page;").before args s = true := hat hts 1 rfl
  unfold f_X5_letter at hf
  refine lv_iload_n hx hb dX5_letter_0 rfl (lv_at hl 1 rfl) ?_
  refine lv_bipush (v := (32 : Int32)) hx hb dX5_letter_1 (by decide) ?_
  refine lv_icmp_lt (tgt := 12) hx hb dX5_letter_3 (by decide) (fun c1 => ?_) (fun c1 => ?_)
  · have hf := oo_t hf c1
    refine lv_sipush (v := (-1002 : Int32)) hx hb dX5_letter_12 (by decide) ?_
    cases hf
    exact hret _ _ _ _ dX5_letter_15 hP hD hS
  · have hf := oo_f hf c1
    refine lv_iload_n hx hb dX5_letter_6 rfl (lv_at hl 1 rfl) ?_
    refine lv_bipush (v := (126 : Int32)) hx hb dX5_letter_7 (by decide) ?_
    refine lv_icmp_le (tgt := 16) hx hb dX5_letter_9 (by decide) (fun c2 => ?_) (fun c2 => ?_)
    · have hf := oo_t hf c2
      refine lv_aload_n hx hb dX5_letter_16 rfl (lv_at hl 0 rfl) ?_
      refine va_get (ci := 5) (v := .ref (ad 1)) (C := RX5) (T := TX5) (N := 10) hx hb hts hin_X5 hown hK hP 0 rfl rfl 0 (by decide) fl_10 (fun _ h9 => h9) rfl dX5_letter_17 ?_
      have F : Fr D A _ (wdPg cI cJ ad pg_codes pg_length) (wdPg cI cJ ad pg_codes pg_length) (wdX cI cJ ad xx_netsRead xx_timesSent xx_passagesSent xx_astraySent xx_loopsSent pg_codes pg_length gr_nodes gr_links gr_start gr_end gr_linkBetween gr_wayLength gr_wayNext gr_wayLinks mk_width mk_drawn mk_seed mk_nextSeed mk_bits bn_links fl_foldBits fl_passages fl_astray fl_loops fl_steps fl_reached fl_matchingAside) := fr_X_Pg hP hD hS hA
      refine kZ F hS (rV (q := (RX4, TX4, 2)) (As := []) (rest := []) ⟨hx, hb, hml, hown, hts⟩ hK hN F (c_X4_isFull l D cI cJ ad _ (pg_codes := pg_codes) (pg_length := pg_length)  (o_res := (f_X4_isFull pg_length)) rfl) (cwV 0 hts gX5_letter_X4_isFull rfl rfl rfl (by decide +kernel) ⟨Nat.le_of_ble_eq_true rfl, Nat.le_of_ble_eq_true rfl⟩) (ci := 4) rfl rfl rfl hl.1 rfl (Nat.le_of_ble_eq_true rfl) dX5_letter_20 ⟨Nat.zero_le _, Nat.zero_le _⟩) (fun H locs hb3 hP hD hS => ?_)
      refine lv_if_eq (tgt := 30) hx hb dX5_letter_23 (by decide) (fun c4 => ?_) (fun c4 => ?_)
      · have hf := oo_t hf c4
        refine lv_aload_n hx hb dX5_letter_30 rfl (lv_at hl 0 rfl) ?_
        refine va_get (ci := 5) (v := .ref (ad 1)) (C := RX5) (T := TX5) (N := 10) hx hb hts hin_X5 hown hK hP 0 rfl rfl 0 (by decide) fl_10 (fun _ h9 => h9) rfl dX5_letter_31 ?_
        refine lv_iload_n hx hb dX5_letter_34 rfl (lv_at hl 1 rfl) ?_
        obtain ⟨⟨pg_codes_6, pg_length_7⟩, h5, hf⟩ := oo_b hf
        try dsimp only at hf
        have F : Fr D A _ (wdPg cI cJ ad pg_codes pg_length) (wdPg cI cJ ad pg_codes_6 pg_length_7) (wdX cI cJ ad xx_netsRead xx_timesSent xx_passagesSent xx_astraySent xx_loopsSent pg_codes_6 pg_length_7 gr_nodes gr_links gr_start gr_end gr_linkBetween gr_wayLength gr_wayNext gr_wayLinks mk_width mk_drawn mk_seed mk_nextSeed mk_bits bn_links fl_foldBits fl_passages fl_astray fl_loops fl_steps fl_reached fl_matchingAside) := fr_X_Pg hP hD hS hA
        refine kV F hS (rV (q := (RX4, TX4, 2)) (As := [.int x1]) (rest := []) ⟨hx, hb, hml, hown, hts⟩ hK hN F (c_X4_append l D cI cJ ad _ (pg_codes := pg_codes) (pg_length := pg_length) x1 (o_pg_codes := pg_codes_6) (o_pg_length := pg_length_7) h5) (cwV 1 hts gX5_letter_X4_append rfl rfl rfl (by decide +kernel) ⟨Nat.le_of_ble_eq_true rfl, Nat.le_of_ble_eq_true rfl⟩) (ci := 4) rfl rfl rfl hl.1 rfl (Nat.le_of_ble_eq_true rfl) dX5_letter_35 ⟨Nat.zero_le _, Nat.zero_le _⟩) (fun H locs hP hD hS => ?_)
        refine lv_aload_n hx hb dX5_letter_38 rfl (lv_at hl 0 rfl) ?_
        refine va_get (ci := 5) (v := .ref (ad 1)) (C := RX5) (T := TX5) (N := 10) hx hb hts hin_X5 hown hK hP 0 rfl rfl 0 (by decide) fl_10 (fun _ h9 => h9) rfl dX5_letter_39 ?_
        have F : Fr D A _ (wdPg cI cJ ad pg_codes_6 pg_length_7) (wdPg cI cJ ad pg_codes_6 pg_length_7) (wdX cI cJ ad xx_netsRead xx_timesSent xx_passagesSent xx_astraySent xx_loopsSent pg_codes_6 pg_length_7 gr_nodes gr_links gr_start gr_end gr_linkBetween gr_wayLength gr_wayNext gr_wayLinks mk_width mk_drawn mk_seed mk_nextSeed mk_bits bn_links fl_foldBits fl_passages fl_astray fl_loops fl_steps fl_reached fl_matchingAside) := fr_X_Pg hP hD hS hA
        refine kI F hS (rV (q := (RX4, TX4, 2)) (As := []) (rest := []) ⟨hx, hb, hml, hown, hts⟩ hK hN F (c_X4_size l D cI cJ ad _ (pg_codes := pg_codes_6) (pg_length := pg_length_7)  (o_res := (f_X4_size pg_length_7)) rfl) (cwV 0 hts gX5_letter_X4_size rfl rfl rfl (by decide +kernel) ⟨Nat.le_of_ble_eq_true rfl, Nat.le_of_ble_eq_true rfl⟩) (ci := 4) rfl rfl rfl hl.1 rfl (Nat.le_of_ble_eq_true rfl) dX5_letter_42 ⟨Nat.zero_le _, Nat.zero_le _⟩) (fun H locs hP hD hS => ?_)
        cases hf
        exact hret _ _ _ _ dX5_letter_45 hP hD hS
      · have hf := oo_f hf c4
        refine lv_sipush (v := (-1004 : Int32)) hx hb dX5_letter_26 (by decide) ?_
        cases hf
        exact hret _ _ _ _ dX5_letter_29 hP hD hS
    · have hf := oo_f hf c2
      refine lv_sipush (v := (-1002 : Int32)) hx hb dX5_letter_12 (by decide) ?_
      cases hf
      exact hret _ _ _ _ dX5_letter_15 hP hD hS
def f_X5_blank (pg_length : Int32) : Int32 × Int32 :=
  ((f_X4_size pg_length), f_X4_clear)
abbrev rm_X5_blank : Room := { frames := 1, cells := 0, slots := 0, locals := 20 }
set_option maxHeartbeats 4000000 in
set_option maxRecDepth 100000 in
theorem c_X5_blank (l : Launch) (D : va_G) (cI cJ : ClassId) (ad : Nat → Nat) (sz : Nat) {xx_netsRead xx_timesSent xx_passagesSent xx_astraySent xx_loopsSent : Int32} {pg_codes : Nat → Int32} {pg_length gr_nodes gr_links : Int32} {gr_start gr_end gr_linkBetween gr_wayLength gr_wayNext gr_wayLinks : Nat → Int32} {mk_width mk_drawn mk_seed : Int32} {mk_nextSeed : Int64} {mk_bits : Nat → Int64} {bn_links : Nat → Int32} {fl_foldBits fl_passages fl_astray fl_loops fl_steps fl_reached fl_matchingAside : Int32}  {o_res : Int32} {o_pg_length : Int32} (hf : f_X5_blank pg_length = (o_res, o_pg_length)) : CtI l yX5_blank wsX5_blank rm_X5_blank D cI cJ [.ref (ad 0)] (wdX cI cJ ad xx_netsRead xx_timesSent xx_passagesSent xx_astraySent xx_loopsSent pg_codes pg_length gr_nodes gr_links gr_start gr_end gr_linkBetween gr_wayLength gr_wayNext gr_wayLinks mk_width mk_drawn mk_seed mk_nextSeed mk_bits bn_links fl_foldBits fl_passages fl_astray fl_loops fl_steps fl_reached fl_matchingAside) sz o_res (wdX cI cJ ad xx_netsRead xx_timesSent xx_passagesSent xx_astraySent xx_loopsSent pg_codes o_pg_length gr_nodes gr_links gr_start gr_end gr_linkBetween gr_wayLength gr_wayNext gr_wayLinks mk_width mk_drawn mk_seed mk_nextSeed mk_bits bn_links fl_foldBits fl_passages fl_astray fl_loops fl_steps fl_reached fl_matchingAside) := by
  refine ctI_of (cc := cX5_blank) (maxL := 2) (by decide) rfl (Nat.le_of_ble_eq_true rfl) ?_
  intro p e s m below meth c Q A hx hb hml hown hts hK hN hA hret ls hl hP hD hS
  obtain ⟨args, hargs⟩ : ∃ a : Array Value, a = [.ref (ad 0)].toArray := ⟨_, rfl⟩
  rw [← hargs] at hts hret ⊢
  have hown : s.vm.findClass RX5 = some m.cls := hown
  have hl : lv_has ls 2 [(0, .ref (ad 0))] := hl
  have hin_X5 : ∀ w ∈ wsX50, w ∈ wsX5_blank := fun _ h => List.mem_cons_of_mem _ (List.mem_append_left _ (List.mem_append_right _ h))
  have fl_10 : (Cond.fieldLink RX5 10 "FoldedWays" "page" "LFoldedWays$Page;").before args s = true := hat hts 1 rfl
  unfold f_X5_blank at hf
  refine lv_aload_n hx hb dX5_blank_0 rfl (lv_at hl 0 rfl) ?_
  refine va_get (ci := 5) (v := .ref (ad 1)) (C := RX5) (T := TX5) (N := 10) hx hb hts hin_X5 hown hK hP 0 rfl rfl 0 (by decide) fl_10 (fun _ h9 => h9) rfl dX5_blank_1 ?_
  have F : Fr D A _ (wdPg cI cJ ad pg_codes pg_length) (wdPg cI cJ ad pg_codes pg_length) (wdX cI cJ ad xx_netsRead xx_timesSent xx_passagesSent xx_astraySent xx_loopsSent pg_codes pg_length gr_nodes gr_links gr_start gr_end gr_linkBetween gr_wayLength gr_wayNext gr_wayLinks mk_width mk_drawn mk_seed mk_nextSeed mk_bits bn_links fl_foldBits fl_passages fl_astray fl_loops fl_steps fl_reached fl_matchingAside) := fr_X_Pg hP hD hS hA
  refine kI F hS (rV (q := (RX4, TX4, 2)) (As := []) (rest := []) ⟨hx, hb, hml, hown, hts⟩ hK hN F (c_X4_size l D cI cJ ad _ (pg_codes := pg_codes) (pg_length := pg_length)  (o_res := (f_X4_size pg_length)) rfl) (cwV 0 hts gX5_blank_X4_size rfl rfl rfl (by decide +kernel) ⟨Nat.le_of_ble_eq_true rfl, Nat.le_of_ble_eq_true rfl⟩) (ci := 4) rfl rfl rfl hl.1 rfl (Nat.le_of_ble_eq_true rfl) dX5_blank_4 ⟨Nat.zero_le _, Nat.zero_le _⟩) (fun H locs hP hD hS => ?_)
  refine lv_istore_n (lv' := [(1, .int (f_X4_size pg_length)), (0, .ref (ad 0))]) hx hb dX5_blank_7 rfl hl (by decide) rfl (fun ls hl => ?_)
  refine lv_aload_n hx hb dX5_blank_8 rfl (lv_at hl 1 rfl) ?_
  refine va_get (ci := 5) (v := .ref (ad 1)) (C := RX5) (T := TX5) (N := 10) hx hb hts hin_X5 hown hK hP 0 rfl rfl 0 (by decide) fl_10 (fun _ h9 => h9) rfl dX5_blank_9 ?_
  have F : Fr D A _ (wdPg cI cJ ad pg_codes pg_length) (wdPg cI cJ ad pg_codes f_X4_clear) (wdX cI cJ ad xx_netsRead xx_timesSent xx_passagesSent xx_astraySent xx_loopsSent pg_codes f_X4_clear gr_nodes gr_links gr_start gr_end gr_linkBetween gr_wayLength gr_wayNext gr_wayLinks mk_width mk_drawn mk_seed mk_nextSeed mk_bits bn_links fl_foldBits fl_passages fl_astray fl_loops fl_steps fl_reached fl_matchingAside) := fr_X_Pg hP hD hS hA
  refine kV F hS (rV (q := (RX4, TX4, 2)) (As := []) (rest := []) ⟨hx, hb, hml, hown, hts⟩ hK hN F (c_X4_clear l D cI cJ ad _ (pg_codes := pg_codes) (pg_length := pg_length)  (o_pg_length := f_X4_clear) rfl) (cwV 0 hts gX5_blank_X4_clear rfl rfl rfl (by decide +kernel) ⟨Nat.le_of_ble_eq_true rfl, Nat.le_of_ble_eq_true rfl⟩) (ci := 4) rfl rfl rfl hl.1 rfl (Nat.le_of_ble_eq_true rfl) dX5_blank_12 ⟨Nat.zero_le _, Nat.zero_le _⟩) (fun H locs hP hD hS => ?_)
  refine lv_iload_n hx hb dX5_blank_15 rfl (lv_at hl 0 rfl) ?_
  cases hf
  exact hret _ _ _ _ dX5_blank_16 hP hD hS
def f_X5_fault (pg_codes : Nat → Int32) (pg_length : Int32) : Option (Int32) :=
  Option.bind (f_X4_firstWrong pg_codes pg_length) fun r2 =>
  some r2
abbrev rm_X5_fault : Room := { frames := 6, cells := 0, slots := 0, locals := 132 }
set_option maxHeartbeats 4000000 in
set_option maxRecDepth 100000 in
theorem c_X5_fault (l : Launch) (D : va_G) (cI cJ : ClassId) (ad : Nat → Nat) (sz : Nat) {xx_netsRead xx_timesSent xx_passagesSent xx_astraySent xx_loopsSent : Int32} {pg_codes : Nat → Int32} {pg_length gr_nodes gr_links : Int32} {gr_start gr_end gr_linkBetween gr_wayLength gr_wayNext gr_wayLinks : Nat → Int32} {mk_width mk_drawn mk_seed : Int32} {mk_nextSeed : Int64} {mk_bits : Nat → Int64} {bn_links : Nat → Int32} {fl_foldBits fl_passages fl_astray fl_loops fl_steps fl_reached fl_matchingAside : Int32}  {o_res : Int32} (hf : f_X5_fault pg_codes pg_length = some o_res) : CtI l yX5_fault wsX5_fault rm_X5_fault D cI cJ [.ref (ad 0)] (wdX cI cJ ad xx_netsRead xx_timesSent xx_passagesSent xx_astraySent xx_loopsSent pg_codes pg_length gr_nodes gr_links gr_start gr_end gr_linkBetween gr_wayLength gr_wayNext gr_wayLinks mk_width mk_drawn mk_seed mk_nextSeed mk_bits bn_links fl_foldBits fl_passages fl_astray fl_loops fl_steps fl_reached fl_matchingAside) sz o_res (wdX cI cJ ad xx_netsRead xx_timesSent xx_passagesSent xx_astraySent xx_loopsSent pg_codes pg_length gr_nodes gr_links gr_start gr_end gr_linkBetween gr_wayLength gr_wayNext gr_wayLinks mk_width mk_drawn mk_seed mk_nextSeed mk_bits bn_links fl_foldBits fl_passages fl_astray fl_loops fl_steps fl_reached fl_matchingAside) := by
  refine ctI_of (cc := cX5_fault) (maxL := 1) (by decide) rfl (Nat.le_of_ble_eq_true rfl) ?_
  intro p e s m below meth c Q A hx hb hml hown hts hK hN hA hret ls hl hP hD hS
  obtain ⟨args, hargs⟩ : ∃ a : Array Value, a = [.ref (ad 0)].toArray := ⟨_, rfl⟩
  rw [← hargs] at hts hret ⊢
  have hown : s.vm.findClass RX5 = some m.cls := hown
  have hl : lv_has ls 1 [(0, .ref (ad 0))] := hl
  have hin_X5 : ∀ w ∈ wsX50, w ∈ wsX5_fault := fun _ h => List.mem_cons_of_mem _ (List.mem_append_left _ (List.mem_append_right _ h))
  have fl_10 : (Cond.fieldLink RX5 10 "FoldedWays" "page" "LFoldedWays$Page;").before args s = true := hat hts 1 rfl
  unfold f_X5_fault at hf
  refine lv_aload_n hx hb dX5_fault_0 rfl (lv_at hl 0 rfl) ?_
  refine va_get (ci := 5) (v := .ref (ad 1)) (C := RX5) (T := TX5) (N := 10) hx hb hts hin_X5 hown hK hP 0 rfl rfl 0 (by decide) fl_10 (fun _ h9 => h9) rfl dX5_fault_1 ?_
  obtain ⟨r2, h1, hf⟩ := oo_b hf
  try dsimp only at hf
  have F : Fr D A _ (wdPg cI cJ ad pg_codes pg_length) (wdPg cI cJ ad pg_codes pg_length) (wdX cI cJ ad xx_netsRead xx_timesSent xx_passagesSent xx_astraySent xx_loopsSent pg_codes pg_length gr_nodes gr_links gr_start gr_end gr_linkBetween gr_wayLength gr_wayNext gr_wayLinks mk_width mk_drawn mk_seed mk_nextSeed mk_bits bn_links fl_foldBits fl_passages fl_astray fl_loops fl_steps fl_reached fl_matchingAside) := fr_X_Pg hP hD hS hA
  refine kI F hS (rV (q := (RX4, TX4, 2)) (As := []) (rest := []) ⟨hx, hb, hml, hown, hts⟩ hK hN F (c_X4_firstWrong l D cI cJ ad _ (pg_codes := pg_codes) (pg_length := pg_length)  (o_res := r2) h1) (cwV 0 hts gX5_fault_X4_firstWrong rfl rfl rfl (by decide +kernel) ⟨Nat.le_of_ble_eq_true rfl, Nat.le_of_ble_eq_true rfl⟩) (ci := 4) rfl rfl rfl hl.1 rfl (Nat.le_of_ble_eq_true rfl) dX5_fault_4 ⟨Nat.zero_le _, Nat.zero_le _⟩) (fun H locs hP hD hS => ?_)
  cases hf
  exact hret _ _ _ _ dX5_fault_7 hP hD hS
def f_X5_net (xx_netsRead : Int32) (pg_codes : Nat → Int32) (pg_length : Int32) (gr_nodes : Int32) (gr_links : Int32) (gr_start : Nat → Int32) (gr_end : Nat → Int32) (gr_linkBetween : Nat → Int32) (gr_wayLength : Nat → Int32) (gr_wayNext : Nat → Int32) (gr_wayLinks : Nat → Int32) (mk_width : Int32) (mk_drawn : Int32) (mk_seed : Int32) (mk_nextSeed : Int64) (mk_bits : Nat → Int64) (bn_links : Nat → Int32) : Option (Int32 × Int32 × Int32 × Int32 × Int32 × (Nat → Int32) × (Nat → Int32) × (Nat → Int32) × (Nat → Int32) × (Nat → Int32) × (Nat → Int32) × Int64 × (Nat → Int64) × (Nat → Int32)) :=
  Option.bind (f_X4_isWhole pg_codes pg_length) fun r2 =>
  if r2 = (0 : Int32) then
    some ((-1003 : Int32), xx_netsRead, pg_length, gr_nodes, gr_links, gr_start, gr_end, gr_linkBetween, gr_wayLength, gr_wayNext, gr_wayLinks, mk_nextSeed, mk_bits, bn_links)
  else
    Option.bind (f_X2_read gr_start gr_end gr_linkBetween gr_wayLength gr_wayNext gr_wayLinks pg_codes pg_length) fun (gr_nodes_6, gr_links_7, gr_start_8, gr_end_9, gr_linkBetween_10, gr_wayLength_11, gr_wayNext_12, gr_wayLinks_13) =>
    Option.bind (f_X0_clear bn_links) fun bn_links_17 =>
    Option.bind (f_X3_drawAll mk_width mk_drawn mk_seed mk_bits (f_X2_linkCount gr_links_7)) fun (mk_nextSeed_21, mk_bits_22) =>
    some ((f_X2_linkCount gr_links_7), (xx_netsRead + (1 : Int32)), f_X4_clear, gr_nodes_6, gr_links_7, gr_start_8, gr_end_9, gr_linkBetween_10, gr_wayLength_11, gr_wayNext_12, gr_wayLinks_13, mk_nextSeed_21, mk_bits_22, bn_links_17)
abbrev rm_X5_net : Room := { frames := 7, cells := 0, slots := 0, locals := 152 }
set_option maxHeartbeats 4000000 in
set_option maxRecDepth 100000 in
theorem c_X5_net (l : Launch) (D : va_G) (cI cJ : ClassId) (ad : Nat → Nat) (sz : Nat) {xx_netsRead xx_timesSent xx_passagesSent xx_astraySent xx_loopsSent : Int32} {pg_codes : Nat → Int32} {pg_length gr_nodes gr_links : Int32} {gr_start gr_end gr_linkBetween gr_wayLength gr_wayNext gr_wayLinks : Nat → Int32} {mk_width mk_drawn mk_seed : Int32} {mk_nextSeed : Int64} {mk_bits : Nat → Int64} {bn_links : Nat → Int32} {fl_foldBits fl_passages fl_astray fl_loops fl_steps fl_reached fl_matchingAside : Int32}  {o_res : Int32} {o_xx_netsRead : Int32} {o_pg_length : Int32} {o_gr_nodes : Int32} {o_gr_links : Int32} {o_gr_start : Nat → Int32} {o_gr_end : Nat → Int32} {o_gr_linkBetween : Nat → Int32} {o_gr_wayLength : Nat → Int32} {o_gr_wayNext : Nat → Int32} {o_gr_wayLinks : Nat → Int32} {o_mk_nextSeed : Int64} {o_mk_bits : Nat → Int64} {o_bn_links : Nat → Int32} (hf : f_X5_net xx_netsRead pg_codes pg_length gr_nodes gr_links gr_start gr_end gr_linkBetween gr_wayLength gr_wayNext gr_wayLinks mk_width mk_drawn mk_seed mk_nextSeed mk_bits bn_links = some (o_res, o_xx_netsRead, o_pg_length, o_gr_nodes, o_gr_links, o_gr_start, o_gr_end, o_gr_linkBetween, o_gr_wayLength, o_gr_wayNext, o_gr_wayLinks, o_mk_nextSeed, o_mk_bits, o_bn_links)) : CtI l yX5_net wsX5_net rm_X5_net D cI cJ [.ref (ad 0)] (wdX cI cJ ad xx_netsRead xx_timesSent xx_passagesSent xx_astraySent xx_loopsSent pg_codes pg_length gr_nodes gr_links gr_start gr_end gr_linkBetween gr_wayLength gr_wayNext gr_wayLinks mk_width mk_drawn mk_seed mk_nextSeed mk_bits bn_links fl_foldBits fl_passages fl_astray fl_loops fl_steps fl_reached fl_matchingAside) sz o_res (wdX cI cJ ad o_xx_netsRead xx_timesSent xx_passagesSent xx_astraySent xx_loopsSent pg_codes o_pg_length o_gr_nodes o_gr_links o_gr_start o_gr_end o_gr_linkBetween o_gr_wayLength o_gr_wayNext o_gr_wayLinks mk_width mk_drawn mk_seed o_mk_nextSeed o_mk_bits o_bn_links fl_foldBits fl_passages fl_astray fl_loops fl_steps fl_reached fl_matchingAside) := by
  refine ctI_of (cc := cX5_net) (maxL := 1) (by decide) rfl (Nat.le_of_ble_eq_true rfl) ?_
  intro p e s m below meth c Q A hx hb hml hown hts hK hN hA hret ls hl hP hD hS
  obtain ⟨args, hargs⟩ : ∃ a : Array Value, a = [.ref (ad 0)].toArray := ⟨_, rfl⟩
  rw [← hargs] at hts hret ⊢
  have hown : s.vm.findClass RX5 = some m.cls := hown
  have hl : lv_has ls 1 [(0, .ref (ad 0))] := hl
  have hin_X5 : ∀ w ∈ wsX50, w ∈ wsX5_net := fun _ h => List.mem_cons_of_mem _ (List.mem_append_left _ (List.mem_append_left _ (List.mem_append_left _ (List.mem_append_left _ (List.mem_append_right _ h)))))
  have fl_10 : (Cond.fieldLink RX5 10 "FoldedWays" "page" "LFoldedWays$Page;").before args s = true := hat hts 1 rfl
  have fl_19 : (Cond.fieldLink RX5 19 "FoldedWays" "graph" "LFoldedWays$Graph;").before args s = true := hat hts 2 rfl
  have fl_26 : (Cond.fieldLink RX5 26 "FoldedWays" "marks" "LFoldedWays$Marks;").before args s = true := hat hts 4 rfl
  have fl_33 : (Cond.fieldLink RX5 33 "FoldedWays" "bundles" "LFoldedWays$Bundles;").before args s = true := hat hts 3 rfl
  have fl_76 : (Cond.fieldLink RX5 76 "FoldedWays" "netsRead" "I").before args s = true := hat hts 5 rfl
  unfold f_X5_net at hf
  refine lv_aload_n hx hb dX5_net_0 rfl (lv_at hl 0 rfl) ?_
  refine va_get (ci := 5) (v := .ref (ad 1)) (C := RX5) (T := TX5) (N := 10) hx hb hts hin_X5 hown hK hP 0 rfl rfl 0 (by decide) fl_10 (fun _ h9 => h9) rfl dX5_net_1 ?_
  obtain ⟨r2, h1, hf⟩ := oo_b hf
  try dsimp only at hf
  have F : Fr D A _ (wdPg cI cJ ad pg_codes pg_length) (wdPg cI cJ ad pg_codes pg_length) (wdX cI cJ ad xx_netsRead xx_timesSent xx_passagesSent xx_astraySent xx_loopsSent pg_codes pg_length gr_nodes gr_links gr_start gr_end gr_linkBetween gr_wayLength gr_wayNext gr_wayLinks mk_width mk_drawn mk_seed mk_nextSeed mk_bits bn_links fl_foldBits fl_passages fl_astray fl_loops fl_steps fl_reached fl_matchingAside) := fr_X_Pg hP hD hS hA
  refine kZ F hS (rV (q := (RX4, TX4, 2)) (As := []) (rest := []) ⟨hx, hb, hml, hown, hts⟩ hK hN F (c_X4_isWhole l D cI cJ ad _ (pg_codes := pg_codes) (pg_length := pg_length)  (o_res := r2) h1) (cwV 0 hts gX5_net_X4_isWhole rfl rfl rfl (by decide +kernel) ⟨Nat.le_of_ble_eq_true rfl, Nat.le_of_ble_eq_true rfl⟩) (ci := 4) rfl rfl rfl hl.1 rfl (Nat.le_of_ble_eq_true rfl) dX5_net_4 ⟨Nat.zero_le _, Nat.zero_le _⟩) (fun H locs hb3 hP hD hS => ?_)
  refine lv_if_ne (tgt := 14) hx hb dX5_net_7 (by decide) (fun c4 => ?_) (fun c4 => ?_)
  · have hf := oo_f hf c4
    refine lv_aload_n hx hb dX5_net_14 rfl (lv_at hl 0 rfl) ?_
    refine va_get (ci := 5) (v := .ref (ad 3)) (C := RX5) (T := TX5) (N := 10) hx hb hts hin_X5 hown hK hP 0 rfl rfl 1 (by decide) fl_19 (fun _ h9 => h9) rfl dX5_net_15 ?_
    refine lv_aload_n hx hb dX5_net_18 rfl (lv_at hl 0 rfl) ?_
    refine va_get (ci := 5) (v := .ref (ad 1)) (C := RX5) (T := TX5) (N := 10) hx hb hts hin_X5 hown hK hP 0 rfl rfl 0 (by decide) fl_10 (fun _ h9 => h9) rfl dX5_net_19 ?_
    obtain ⟨⟨gr_nodes_6, gr_links_7, gr_start_8, gr_end_9, gr_linkBetween_10, gr_wayLength_11, gr_wayNext_12, gr_wayLinks_13⟩, h5, hf⟩ := oo_b hf
    try dsimp only at hf
    have F : Fr D A _ (wdGP cI cJ ad gr_nodes gr_links gr_start gr_end gr_linkBetween gr_wayLength gr_wayNext gr_wayLinks pg_codes pg_length) (wdGP cI cJ ad gr_nodes_6 gr_links_7 gr_start_8 gr_end_9 gr_linkBetween_10 gr_wayLength_11 gr_wayNext_12 gr_wayLinks_13 pg_codes pg_length) (wdX cI cJ ad xx_netsRead xx_timesSent xx_passagesSent xx_astraySent xx_loopsSent pg_codes pg_length gr_nodes_6 gr_links_7 gr_start_8 gr_end_9 gr_linkBetween_10 gr_wayLength_11 gr_wayNext_12 gr_wayLinks_13 mk_width mk_drawn mk_seed mk_nextSeed mk_bits bn_links fl_foldBits fl_passages fl_astray fl_loops fl_steps fl_reached fl_matchingAside) := fr_X_GP hP hD hS hA
    refine kV F hS (rV (q := (RX2, TX2, 8)) (As := [.ref (ad 1)]) (rest := []) ⟨hx, hb, hml, hown, hts⟩ hK hN F (c_X2_read l D cI cJ ad _ (gr_nodes := gr_nodes) (gr_links := gr_links) (gr_start := gr_start) (gr_end := gr_end) (gr_linkBetween := gr_linkBetween) (gr_wayLength := gr_wayLength) (gr_wayNext := gr_wayNext) (gr_wayLinks := gr_wayLinks) (pg_codes := pg_codes) (pg_length := pg_length)  (o_gr_nodes := gr_nodes_6) (o_gr_links := gr_links_7) (o_gr_start := gr_start_8) (o_gr_end := gr_end_9) (o_gr_linkBetween := gr_linkBetween_10) (o_gr_wayLength := gr_wayLength_11) (o_gr_wayNext := gr_wayNext_12) (o_gr_wayLinks := gr_wayLinks_13) h5) (cwV 1 hts gX5_net_X2_read rfl rfl rfl (by decide +kernel) ⟨Nat.le_of_ble_eq_true rfl, Nat.le_of_ble_eq_true rfl⟩) (ci := 2) rfl rfl rfl hl.1 rfl (Nat.le_of_ble_eq_true rfl) dX5_net_22 ⟨Nat.zero_le _, Nat.zero_le _⟩) (fun H locs hP hD hS => ?_)
    refine lv_aload_n hx hb dX5_net_25 rfl (lv_at hl 0 rfl) ?_
    refine va_get (ci := 5) (v := .ref (ad 1)) (C := RX5) (T := TX5) (N := 10) hx hb hts hin_X5 hown hK hP 0 rfl rfl 0 (by decide) fl_10 (fun _ h9 => h9) rfl dX5_net_26 ?_
    have F : Fr D A _ (wdPg cI cJ ad pg_codes pg_length) (wdPg cI cJ ad pg_codes f_X4_clear) (wdX cI cJ ad xx_netsRead xx_timesSent xx_passagesSent xx_astraySent xx_loopsSent pg_codes f_X4_clear gr_nodes_6 gr_links_7 gr_start_8 gr_end_9 gr_linkBetween_10 gr_wayLength_11 gr_wayNext_12 gr_wayLinks_13 mk_width mk_drawn mk_seed mk_nextSeed mk_bits bn_links fl_foldBits fl_passages fl_astray fl_loops fl_steps fl_reached fl_matchingAside) := fr_X_Pg hP hD hS hA
    refine kV F hS (rV (q := (RX4, TX4, 2)) (As := []) (rest := []) ⟨hx, hb, hml, hown, hts⟩ hK hN F (c_X4_clear l D cI cJ ad _ (pg_codes := pg_codes) (pg_length := pg_length)  (o_pg_length := f_X4_clear) rfl) (cwV 0 hts gX5_net_X4_clear rfl rfl rfl (by decide +kernel) ⟨Nat.le_of_ble_eq_true rfl, Nat.le_of_ble_eq_true rfl⟩) (ci := 4) rfl rfl rfl hl.1 rfl (Nat.le_of_ble_eq_true rfl) dX5_net_29 ⟨Nat.zero_le _, Nat.zero_le _⟩) (fun H locs hP hD hS => ?_)
    refine lv_aload_n hx hb dX5_net_32 rfl (lv_at hl 0 rfl) ?_
    refine va_get (ci := 5) (v := .ref (ad 12)) (C := RX5) (T := TX5) (N := 10) hx hb hts hin_X5 hown hK hP 0 rfl rfl 3 (by decide) fl_33 (fun _ h9 => h9) rfl dX5_net_33 ?_
    obtain ⟨bn_links_17, h16, hf⟩ := oo_b hf
    try dsimp only at hf
    have F : Fr D A _ (wdB cI cJ ad bn_links) (wdB cI cJ ad bn_links_17) (wdX cI cJ ad xx_netsRead xx_timesSent xx_passagesSent xx_astraySent xx_loopsSent pg_codes f_X4_clear gr_nodes_6 gr_links_7 gr_start_8 gr_end_9 gr_linkBetween_10 gr_wayLength_11 gr_wayNext_12 gr_wayLinks_13 mk_width mk_drawn mk_seed mk_nextSeed mk_bits bn_links_17 fl_foldBits fl_passages fl_astray fl_loops fl_steps fl_reached fl_matchingAside) := fr_X_B hP hD hS hA
    refine kV F hS (rV (q := (RX0, TX0, 1)) (As := []) (rest := []) ⟨hx, hb, hml, hown, hts⟩ hK hN F (c_X0_clear l D cI cJ ad _ (bn_links := bn_links)  (o_bn_links := bn_links_17) h16) (cwV 0 hts gX5_net_X0_clear rfl rfl rfl (by decide +kernel) ⟨Nat.le_of_ble_eq_true rfl, Nat.le_of_ble_eq_true rfl⟩) (ci := 0) rfl rfl rfl hl.1 rfl (Nat.le_of_ble_eq_true rfl) dX5_net_36 ⟨Nat.zero_le _, Nat.zero_le _⟩) (fun H locs hP hD hS => ?_)
    refine lv_aload_n hx hb dX5_net_39 rfl (lv_at hl 0 rfl) ?_
    refine va_get (ci := 5) (v := .ref (ad 10)) (C := RX5) (T := TX5) (N := 10) hx hb hts hin_X5 hown hK hP 0 rfl rfl 2 (by decide) fl_26 (fun _ h9 => h9) rfl dX5_net_40 ?_
    refine lv_aload_n hx hb dX5_net_43 rfl (lv_at hl 0 rfl) ?_
    refine va_get (ci := 5) (v := .ref (ad 3)) (C := RX5) (T := TX5) (N := 10) hx hb hts hin_X5 hown hK hP 0 rfl rfl 1 (by decide) fl_19 (fun _ h9 => h9) rfl dX5_net_44 ?_
    have F : Fr D A _ (wdG cI cJ ad gr_nodes_6 gr_links_7 gr_start_8 gr_end_9 gr_linkBetween_10 gr_wayLength_11 gr_wayNext_12 gr_wayLinks_13) (wdG cI cJ ad gr_nodes_6 gr_links_7 gr_start_8 gr_end_9 gr_linkBetween_10 gr_wayLength_11 gr_wayNext_12 gr_wayLinks_13) (wdX cI cJ ad xx_netsRead xx_timesSent xx_passagesSent xx_astraySent xx_loopsSent pg_codes f_X4_clear gr_nodes_6 gr_links_7 gr_start_8 gr_end_9 gr_linkBetween_10 gr_wayLength_11 gr_wayNext_12 gr_wayLinks_13 mk_width mk_drawn mk_seed mk_nextSeed mk_bits bn_links_17 fl_foldBits fl_passages fl_astray fl_loops fl_steps fl_reached fl_matchingAside) := fr_X_G hP hD hS hA
    refine kI F hS (rV (q := (RX2, TX2, 8)) (As := []) (rest := [.ref (ad 10)]) ⟨hx, hb, hml, hown, hts⟩ hK hN F (c_X2_linkCount l D cI cJ ad _ (gr_nodes := gr_nodes_6) (gr_links := gr_links_7) (gr_start := gr_start_8) (gr_end := gr_end_9) (gr_linkBetween := gr_linkBetween_10) (gr_wayLength := gr_wayLength_11) (gr_wayNext := gr_wayNext_12) (gr_wayLinks := gr_wayLinks_13)  (o_res := (f_X2_linkCount gr_links_7)) rfl) (cwV 0 hts gX5_net_X2_linkCount rfl rfl rfl (by decide +kernel) ⟨Nat.le_of_ble_eq_true rfl, Nat.le_of_ble_eq_true rfl⟩) (ci := 2) rfl rfl rfl hl.1 rfl (Nat.le_of_ble_eq_true rfl) dX5_net_47 ⟨Nat.zero_le _, Nat.zero_le _⟩) (fun H locs hP hD hS => ?_)
    obtain ⟨⟨mk_nextSeed_21, mk_bits_22⟩, h20, hf⟩ := oo_b hf
    try dsimp only at hf
    have F : Fr D A _ (wdK cI cJ ad mk_width mk_drawn mk_seed mk_nextSeed mk_bits) (wdK cI cJ ad mk_width mk_drawn mk_seed mk_nextSeed_21 mk_bits_22) (wdX cI cJ ad xx_netsRead xx_timesSent xx_passagesSent xx_astraySent xx_loopsSent pg_codes f_X4_clear gr_nodes_6 gr_links_7 gr_start_8 gr_end_9 gr_linkBetween_10 gr_wayLength_11 gr_wayNext_12 gr_wayLinks_13 mk_width mk_drawn mk_seed mk_nextSeed_21 mk_bits_22 bn_links_17 fl_foldBits fl_passages fl_astray fl_loops fl_steps fl_reached fl_matchingAside) := fr_X_K hP hD hS hA
    refine kV F hS (rV (q := (RX3, TX3, 5)) (As := [.int (f_X2_linkCount gr_links_7)]) (rest := []) ⟨hx, hb, hml, hown, hts⟩ hK hN F (c_X3_drawAll l D cI cJ ad _ (mk_width := mk_width) (mk_drawn := mk_drawn) (mk_seed := mk_seed) (mk_nextSeed := mk_nextSeed) (mk_bits := mk_bits) (f_X2_linkCount gr_links_7) (o_mk_nextSeed := mk_nextSeed_21) (o_mk_bits := mk_bits_22) h20) (cwV 1 hts gX5_net_X3_drawAll rfl rfl rfl (by decide +kernel) ⟨Nat.le_of_ble_eq_true rfl, Nat.le_of_ble_eq_true rfl⟩) (ci := 3) rfl rfl rfl hl.1 rfl (Nat.le_of_ble_eq_true rfl) dX5_net_50 ⟨Nat.zero_le _, Nat.zero_le _⟩) (fun H locs hP hD hS => ?_)
    refine lv_aload_n hx hb dX5_net_53 rfl (lv_at hl 0 rfl) ?_
    refine lv_dup hx hb dX5_net_54 rfl ?_
    refine va_get (ci := 5) (v := .int xx_netsRead) (C := RX5) (T := TX5) (N := 10) hx hb hts hin_X5 hown hK hP 0 rfl rfl 5 (by decide) fl_76 (fun _ h9 => h9) rfl dX5_net_55 ?_
    refine lv_iconst (v := (1 : Int32)) hx hb dX5_net_58 (by decide) ?_
    refine lv_iadd hx hb dX5_net_59 ?_
    refine va_put (ci := 5) (v := .int (xx_netsRead + (1 : Int32))) (ty := .int) (C := RX5) (T := TX5) (N := 10) hx hb hts hin_X5 tyX5 tyX5_ok nmX5 hown hK hP hD hS 0 rfl rfl 5 (by decide) fl_76 (fun _ h9 => h9) rfl (by decide +kernel) rfl rfl (Nat.le_of_ble_eq_true rfl) dX5_net_60 (fun H locs hP hD hS => ?_)
    have hP : va_P D vwCl (wdX cI cJ ad (xx_netsRead + (1 : Int32)) xx_timesSent xx_passagesSent xx_astraySent xx_loopsSent pg_codes f_X4_clear gr_nodes_6 gr_links_7 gr_start_8 gr_end_9 gr_linkBetween_10 gr_wayLength_11 gr_wayNext_12 gr_wayLinks_13 mk_width mk_drawn mk_seed mk_nextSeed_21 mk_bits_22 bn_links_17 fl_foldBits fl_passages fl_astray fl_loops fl_steps fl_reached fl_matchingAside) H := hP
    have hD : va_D A (wdX cI cJ ad (xx_netsRead + (1 : Int32)) xx_timesSent xx_passagesSent xx_astraySent xx_loopsSent pg_codes f_X4_clear gr_nodes_6 gr_links_7 gr_start_8 gr_end_9 gr_linkBetween_10 gr_wayLength_11 gr_wayNext_12 gr_wayLinks_13 mk_width mk_drawn mk_seed mk_nextSeed_21 mk_bits_22 bn_links_17 fl_foldBits fl_passages fl_astray fl_loops fl_steps fl_reached fl_matchingAside) := hD
    refine lv_aload_n hx hb dX5_net_63 rfl (lv_at hl 0 rfl) ?_
    refine va_get (ci := 5) (v := .ref (ad 3)) (C := RX5) (T := TX5) (N := 10) hx hb hts hin_X5 hown hK hP 0 rfl rfl 1 (by decide) fl_19 (fun _ h9 => h9) rfl dX5_net_64 ?_
    have F : Fr D A _ (wdG cI cJ ad gr_nodes_6 gr_links_7 gr_start_8 gr_end_9 gr_linkBetween_10 gr_wayLength_11 gr_wayNext_12 gr_wayLinks_13) (wdG cI cJ ad gr_nodes_6 gr_links_7 gr_start_8 gr_end_9 gr_linkBetween_10 gr_wayLength_11 gr_wayNext_12 gr_wayLinks_13) (wdX cI cJ ad (xx_netsRead + (1 : Int32)) xx_timesSent xx_passagesSent xx_astraySent xx_loopsSent pg_codes f_X4_clear gr_nodes_6 gr_links_7 gr_start_8 gr_end_9 gr_linkBetween_10 gr_wayLength_11 gr_wayNext_12 gr_wayLinks_13 mk_width mk_drawn mk_seed mk_nextSeed_21 mk_bits_22 bn_links_17 fl_foldBits fl_passages fl_astray fl_loops fl_steps fl_reached fl_matchingAside) := fr_X_G hP hD hS hA
    refine kI F hS (rV (q := (RX2, TX2, 8)) (As := []) (rest := []) ⟨hx, hb, hml, hown, hts⟩ hK hN F (c_X2_linkCount l D cI cJ ad _ (gr_nodes := gr_nodes_6) (gr_links := gr_links_7) (gr_start := gr_start_8) (gr_end := gr_end_9) (gr_linkBetween := gr_linkBetween_10) (gr_wayLength := gr_wayLength_11) (gr_wayNext := gr_wayNext_12) (gr_wayLinks := gr_wayLinks_13)  (o_res := (f_X2_linkCount gr_links_7)) rfl) (cwV 0 hts gX5_net_X2_linkCount rfl rfl rfl (by decide +kernel) ⟨Nat.le_of_ble_eq_true rfl, Nat.le_of_ble_eq_true rfl⟩) (ci := 2) rfl rfl rfl hl.1 rfl (Nat.le_of_ble_eq_true rfl) dX5_net_67 ⟨Nat.zero_le _, Nat.zero_le _⟩) (fun H locs hP hD hS => ?_)
    cases hf
    exact hret _ _ _ _ dX5_net_70 hP hD hS
  · have hf := oo_t hf c4
    refine lv_sipush (v := (-1003 : Int32)) hx hb dX5_net_10 (by decide) ?_
    cases hf
    exact hret _ _ _ _ dX5_net_13 hP hD hS
