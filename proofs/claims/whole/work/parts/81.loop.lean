theorem law_gt {j L : Nat} (hj : j < 100000) (hL : L < 100000) (h : L < j + 6) : Int32.ofNat L - 6 < nI j := by
  show nI L - nI 6 < nI j
  rw [Int32.lt_iff_toInt_lt, pk_sub_toInt (by omega) (by omega), nI_toInt (by omega)]
  omega
set_option maxHeartbeats 8000000 in
set_option maxRecDepth 100000 in
theorem law_loop {p : Program} {l : Launch} {e : Env} {s : State} {m : MethodId} {below : List Frame} {meth : Method} {c : Code} {D : va_G} {cI cJ : ClassId} {ad : Nat → Nat} {b L : Nat} {xs : Nat → Int32} (C0 : lw_At p s m meth c b L xs) (hL : L ≤ 3072) (hK : va_K D vwCl (tyIJ cI cJ) s) (hN : NSt s) : ∀ (n j : Nat) (xx_netsRead xx_timesSent xx_passagesSent xx_astraySent xx_loopsSent : Int32) (pg_codes : Nat → Int32) (pg_length gr_nodes gr_links : Int32) (gr_start gr_end gr_linkBetween gr_wayLength gr_wayNext gr_wayLinks : Nat → Int32) (mk_width mk_drawn mk_seed : Int32) (mk_nextSeed : Int64) (mk_bits : Nat → Int64) (bn_links : Nat → Int32) (fl_foldBits fl_passages fl_astray fl_loops fl_steps fl_reached fl_matchingAside mo_pageLength : Int32) (mo_page : Nat → Int32) (mo_nodes mo_links : Int32) (mo_fromOf mo_toOf : Nat → Int32) (mo_width mo_drawn mo_seed : Int32) (mo_bundleOf : Nat → Int32) (mo_netsRead mo_sent mo_passagesEver mo_astrayEver mo_loopsEver mo_newNodes mo_newPairs mo_due mo_newOne : Int32) (mo_newFrom mo_newTo : Nat → Int32) (mo_marks : Nat → Int64) (mo_drawing : Int64) (mo_leftOf : Nat → Int32) (mo_wayMany : Int32) (mo_wayAt : Nat → Int32) (mo_bitsNow : Int64) (mo_passages mo_astray mo_loops mo_steps mo_reached mo_others : Int32) (mo_h : Int64), j ≤ L + 6 → L + 7 ≤ j + n → Inv xx_netsRead xx_timesSent xx_passagesSent xx_astraySent xx_loopsSent pg_codes pg_length gr_nodes gr_links gr_start gr_end gr_wayLength gr_wayNext gr_wayLinks mk_width mk_drawn mk_seed mk_bits bn_links mo_pageLength mo_page mo_nodes mo_links mo_fromOf mo_toOf mo_width mo_drawn mo_seed mo_bundleOf mo_netsRead mo_sent mo_passagesEver mo_astrayEver mo_loopsEver mo_marks → ∀ (H : Heap) (locs : List Loc) (ls : Array Slot), va_P D vwCl (wdXM cI cJ ad xx_netsRead xx_timesSent xx_passagesSent xx_astraySent xx_loopsSent pg_codes pg_length gr_nodes gr_links gr_start gr_end gr_linkBetween gr_wayLength gr_wayNext gr_wayLinks mk_width mk_drawn mk_seed mk_nextSeed mk_bits bn_links fl_foldBits fl_passages fl_astray fl_loops fl_steps fl_reached fl_matchingAside mo_pageLength mo_page mo_nodes mo_links mo_fromOf mo_toOf mo_width mo_drawn mo_seed mo_bundleOf mo_netsRead mo_sent mo_passagesEver mo_astrayEver mo_loopsEver mo_newNodes mo_newPairs mo_due mo_newOne mo_newFrom mo_newTo mo_marks mo_drawing mo_leftOf mo_wayMany mo_wayAt mo_bitsNow mo_passages mo_astray mo_loops mo_steps mo_reached mo_others mo_h) H → va_D (fun q : Nat => s.heap.size ≤ q) (wdXM cI cJ ad xx_netsRead xx_timesSent xx_passagesSent xx_astraySent xx_loopsSent pg_codes pg_length gr_nodes gr_links gr_start gr_end gr_linkBetween gr_wayLength gr_wayNext gr_wayLinks mk_width mk_drawn mk_seed mk_nextSeed mk_bits bn_links fl_foldBits fl_passages fl_astray fl_loops fl_steps fl_reached fl_matchingAside mo_pageLength mo_page mo_nodes mo_links mo_fromOf mo_toOf mo_width mo_drawn mo_seed mo_bundleOf mo_netsRead mo_sent mo_passagesEver mo_astrayEver mo_loopsEver mo_newNodes mo_newPairs mo_due mo_newOne mo_newFrom mo_newTo mo_marks mo_drawing mo_leftOf mo_wayMany mo_wayAt mo_bitsNow mo_passages mo_astray mo_loops mo_steps mo_reached mo_others mo_h) → va_S (fun q : Nat => s.heap.size ≤ q) s.heap H locs → lv_has ls 4 [(0, .ref b), (1, .ref (ad 0)), (2, .ref (ad 15)), (3, .int (nI j))] → W p l e room_1 s m #[Value.ref b] below meth c H locs 25 481 (lw_Z below #[Value.ref b] s) (F0 m 18 ls []) := by
  have C1 := C0
  obtain ⟨hx, hb, hr, hml, hown, hts, hX, hbl, hlocks, hgv⟩ := C0
  have hA : ∀ q : Nat, s.heap.size ≤ q → (fun q : Nat => s.heap.size ≤ q) q := fun _ h => h
  have hbA : ¬ (fun q : Nat => s.heap.size ≤ q) b := Nat.not_le.mpr hbl
  intro n
  induction n with
  | zero =>
    intro j xx_netsRead xx_timesSent xx_passagesSent xx_astraySent xx_loopsSent pg_codes pg_length gr_nodes gr_links gr_start gr_end gr_linkBetween gr_wayLength gr_wayNext gr_wayLinks mk_width mk_drawn mk_seed mk_nextSeed mk_bits bn_links fl_foldBits fl_passages fl_astray fl_loops fl_steps fl_reached fl_matchingAside mo_pageLength mo_page mo_nodes mo_links mo_fromOf mo_toOf mo_width mo_drawn mo_seed mo_bundleOf mo_netsRead mo_sent mo_passagesEver mo_astrayEver mo_loopsEver mo_newNodes mo_newPairs mo_due mo_newOne mo_newFrom mo_newTo mo_marks mo_drawing mo_leftOf mo_wayMany mo_wayAt mo_bitsNow mo_passages mo_astray mo_loops mo_steps mo_reached mo_others mo_h hj hn
    exact absurd hn (by omega)
  | succ n ih =>
    intro j xx_netsRead xx_timesSent xx_passagesSent xx_astraySent xx_loopsSent pg_codes pg_length gr_nodes gr_links gr_start gr_end gr_linkBetween gr_wayLength gr_wayNext gr_wayLinks mk_width mk_drawn mk_seed mk_nextSeed mk_bits bn_links fl_foldBits fl_passages fl_astray fl_loops fl_steps fl_reached fl_matchingAside mo_pageLength mo_page mo_nodes mo_links mo_fromOf mo_toOf mo_width mo_drawn mo_seed mo_bundleOf mo_netsRead mo_sent mo_passagesEver mo_astrayEver mo_loopsEver mo_newNodes mo_newPairs mo_due mo_newOne mo_newFrom mo_newTo mo_marks mo_drawing mo_leftOf mo_wayMany mo_wayAt mo_bitsNow mo_passages mo_astray mo_loops mo_steps mo_reached mo_others mo_h hj hn hI H locs ls hP hD hS hl
    refine lv_iload_n hx hb dL_law_18 rfl (lv_at hl 3 rfl) ?_
    refine lv_aload_n hx hb dL_law_19 rfl (lv_at hl 0 rfl) ?_
    refine va_slen hx hb hX hbl hbA hS dL_law_20 ?_
    refine lv_bipush (v := (6 : Int32)) hx hb dL_law_21 (by decide) ?_
    refine lv_isub hx hb dL_law_23 ?_
    refine lv_icmp_gt (tgt := 768) hx hb dL_law_24 (by decide) (fun cg => ?_) (fun cg => ?_)
    · refine lv_iconst (v := 1) hx hb dL_law_768 (by decide) ?_
      refine va_forget (fun q hq => hS.2.2 q hq) ?_
      exact lw_ret hx hb hr hlocks dL_law_769
    · have hj6 : j + 6 ≤ L := by
        rcases Nat.lt_or_ge L (j + 6) with q | q
        · exact absurd (law_gt (by omega) (by omega) q) cg
        · exact q
      have hin0 : vp_in (nI j) L := vp_in_nI (by omega) (by omega)
      refine lv_aload_n hx hb dL_law_27 rfl (lv_at hl 0 rfl) ?_
      refine lv_iload_n hx hb dL_law_28 rfl (lv_at hl 3 rfl) ?_
      refine va_sld hx hb hX hbl hbA hS hin0 dL_law_29 ?_
      refine lv_bipush (v := (31 : Int32)) hx hb dL_law_30 (by decide) ?_
      refine lv_iand hx hb dL_law_32 ?_
      have nxt : ∀ (xx_netsRead' xx_timesSent' xx_passagesSent' xx_astraySent' xx_loopsSent' : Int32) (pg_codes' : Nat → Int32) (pg_length' gr_nodes' gr_links' : Int32) (gr_start' gr_end' gr_linkBetween' gr_wayLength' gr_wayNext' gr_wayLinks' : Nat → Int32) (mk_width' mk_drawn' mk_seed' : Int32) (mk_nextSeed' : Int64) (mk_bits' : Nat → Int64) (bn_links' : Nat → Int32) (fl_foldBits' fl_passages' fl_astray' fl_loops' fl_steps' fl_reached' fl_matchingAside' mo_pageLength' : Int32) (mo_page' : Nat → Int32) (mo_nodes' mo_links' : Int32) (mo_fromOf' mo_toOf' : Nat → Int32) (mo_width' mo_drawn' mo_seed' : Int32) (mo_bundleOf' : Nat → Int32) (mo_netsRead' mo_sent' mo_passagesEver' mo_astrayEver' mo_loopsEver' mo_newNodes' mo_newPairs' mo_due' mo_newOne' : Int32) (mo_newFrom' mo_newTo' : Nat → Int32) (mo_marks' : Nat → Int64) (mo_drawing' : Int64) (mo_leftOf' : Nat → Int32) (mo_wayMany' : Int32) (mo_wayAt' : Nat → Int32) (mo_bitsNow' : Int64) (mo_passages' mo_astray' mo_loops' mo_steps' mo_reached' mo_others' : Int32) (mo_h' : Int64), Inv xx_netsRead' xx_timesSent' xx_passagesSent' xx_astraySent' xx_loopsSent' pg_codes' pg_length' gr_nodes' gr_links' gr_start' gr_end' gr_wayLength' gr_wayNext' gr_wayLinks' mk_width' mk_drawn' mk_seed' mk_bits' bn_links' mo_pageLength' mo_page' mo_nodes' mo_links' mo_fromOf' mo_toOf' mo_width' mo_drawn' mo_seed' mo_bundleOf' mo_netsRead' mo_sent' mo_passagesEver' mo_astrayEver' mo_loopsEver' mo_marks' → ∀ (H : Heap) (locs : List Loc) (ls : Array Slot), va_P D vwCl (wdXM cI cJ ad xx_netsRead' xx_timesSent' xx_passagesSent' xx_astraySent' xx_loopsSent' pg_codes' pg_length' gr_nodes' gr_links' gr_start' gr_end' gr_linkBetween' gr_wayLength' gr_wayNext' gr_wayLinks' mk_width' mk_drawn' mk_seed' mk_nextSeed' mk_bits' bn_links' fl_foldBits' fl_passages' fl_astray' fl_loops' fl_steps' fl_reached' fl_matchingAside' mo_pageLength' mo_page' mo_nodes' mo_links' mo_fromOf' mo_toOf' mo_width' mo_drawn' mo_seed' mo_bundleOf' mo_netsRead' mo_sent' mo_passagesEver' mo_astrayEver' mo_loopsEver' mo_newNodes' mo_newPairs' mo_due' mo_newOne' mo_newFrom' mo_newTo' mo_marks' mo_drawing' mo_leftOf' mo_wayMany' mo_wayAt' mo_bitsNow' mo_passages' mo_astray' mo_loops' mo_steps' mo_reached' mo_others' mo_h') H → va_D (fun q : Nat => s.heap.size ≤ q) (wdXM cI cJ ad xx_netsRead' xx_timesSent' xx_passagesSent' xx_astraySent' xx_loopsSent' pg_codes' pg_length' gr_nodes' gr_links' gr_start' gr_end' gr_linkBetween' gr_wayLength' gr_wayNext' gr_wayLinks' mk_width' mk_drawn' mk_seed' mk_nextSeed' mk_bits' bn_links' fl_foldBits' fl_passages' fl_astray' fl_loops' fl_steps' fl_reached' fl_matchingAside' mo_pageLength' mo_page' mo_nodes' mo_links' mo_fromOf' mo_toOf' mo_width' mo_drawn' mo_seed' mo_bundleOf' mo_netsRead' mo_sent' mo_passagesEver' mo_astrayEver' mo_loopsEver' mo_newNodes' mo_newPairs' mo_due' mo_newOne' mo_newFrom' mo_newTo' mo_marks' mo_drawing' mo_leftOf' mo_wayMany' mo_wayAt' mo_bitsNow' mo_passages' mo_astray' mo_loops' mo_steps' mo_reached' mo_others' mo_h') → va_S (fun q : Nat => s.heap.size ≤ q) s.heap H locs → lv_has ls 4 [(0, .ref b), (1, .ref (ad 0)), (2, .ref (ad 15)), (3, .int (nI j))] → W p l e room_1 s m #[Value.ref b] below meth c H locs 25 481 (lw_Z below #[Value.ref b] s) (F0 m 762 ls []) := by
        intro xx_netsRead' xx_timesSent' xx_passagesSent' xx_astraySent' xx_loopsSent' pg_codes' pg_length' gr_nodes' gr_links' gr_start' gr_end' gr_linkBetween' gr_wayLength' gr_wayNext' gr_wayLinks' mk_width' mk_drawn' mk_seed' mk_nextSeed' mk_bits' bn_links' fl_foldBits' fl_passages' fl_astray' fl_loops' fl_steps' fl_reached' fl_matchingAside' mo_pageLength' mo_page' mo_nodes' mo_links' mo_fromOf' mo_toOf' mo_width' mo_drawn' mo_seed' mo_bundleOf' mo_netsRead' mo_sent' mo_passagesEver' mo_astrayEver' mo_loopsEver' mo_newNodes' mo_newPairs' mo_due' mo_newOne' mo_newFrom' mo_newTo' mo_marks' mo_drawing' mo_leftOf' mo_wayMany' mo_wayAt' mo_bitsNow' mo_passages' mo_astray' mo_loops' mo_steps' mo_reached' mo_others' mo_h' hI H locs ls hP hD hS hl
        refine lv_iinc (v := nI (j + 6)) (lv' := [(3, .int (nI (j + 6))), (0, .ref b), (1, .ref (ad 0)), (2, .ref (ad 15))]) hx hb dL_law_762 hl (k := 3) rfl (nI_add j 6) (by decide) rfl (fun ls hl => ?_)
        refine lv_goto (tgt := 18) hx hb dL_law_765 (by decide) ?_
        exact ih (j + 6) _ _ _ _ _ _ _ _ _ _ _ _ _ _ _ _ _ _ _ _ _ _ _ _ _ _ _ _ _ _ _ _ _ _ _ _ _ _ _ _ _ _ _ _ _ _ _ _ _ _ _ _ _ _ _ _ _ _ _ _ _ _ (by omega) (by omega) hI _ _ _ hP hD hS (lv_sub hl [1, 2, 3, 0] rfl)
      generalize hsw : xs (nI j).toNatClampNeg &&& 31 = sw
      by_cases c0 : sw = (0 : Int32)
      · refine lv_tableIn (tgt := 120) hx hb dL_law_33 (by rw [c0]; decide) (by rw [c0]; decide) (by rw [c0]; rfl) (by decide) ?_
        exact law_letter C1 hL hK hN j hj6 hI nxt _ _ _ hP hD hS hl
      by_cases c1 : sw = (1 : Int32)
      · refine lv_tableIn (tgt := 143) hx hb dL_law_33 (by rw [c1]; decide) (by rw [c1]; decide) (by rw [c1]; rfl) (by decide) ?_
        exact law_blank C1 hL hK hN j hj6 hI nxt _ _ _ hP hD hS hl
      by_cases c2 : sw = (2 : Int32)
      · refine lv_tableIn (tgt := 156) hx hb dL_law_33 (by rw [c2]; decide) (by rw [c2]; decide) (by rw [c2]; rfl) (by decide) ?_
        exact law_fault C1 hL hK hN j hj6 hI nxt _ _ _ hP hD hS hl
      by_cases c3 : sw = (3 : Int32)
      · refine lv_tableIn (tgt := 169) hx hb dL_law_33 (by rw [c3]; decide) (by rw [c3]; decide) (by rw [c3]; rfl) (by decide) ?_
        exact law_net C1 hL hK hN j hj6 hI nxt _ _ _ hP hD hS hl
      by_cases c4 : sw = (4 : Int32)
      · refine lv_tableIn (tgt := 182) hx hb dL_law_33 (by rw [c4]; decide) (by rw [c4]; decide) (by rw [c4]; rfl) (by decide) ?_
        exact law_set C1 hL hK hN j hj6 hI nxt _ _ _ hP hD hS hl
      by_cases c5 : sw = (5 : Int32)
      · refine lv_tableIn (tgt := 215) hx hb dL_law_33 (by rw [c5]; decide) (by rw [c5]; decide) (by rw [c5]; rfl) (by decide) ?_
        exact law_mark C1 hL hK hN j hj6 hI nxt _ _ _ hP hD hS hl
      by_cases c6 : sw = (6 : Int32)
      · refine lv_tableIn (tgt := 249) hx hb dL_law_33 (by rw [c6]; decide) (by rw [c6]; decide) (by rw [c6]; rfl) (by decide) ?_
        exact law_link C1 hL hK hN j hj6 hI nxt _ _ _ hP hD hS hl
      by_cases c7 : sw = (7 : Int32)
      · refine lv_tableIn (tgt := 282) hx hb dL_law_33 (by rw [c7]; decide) (by rw [c7]; decide) (by rw [c7]; rfl) (by decide) ?_
        exact law_way C1 hL hK hN j hj6 hI nxt _ _ _ hP hD hS hl
      by_cases c8 : sw = (8 : Int32)
      · refine lv_tableIn (tgt := 325) hx hb dL_law_33 (by rw [c8]; decide) (by rw [c8]; decide) (by rw [c8]; rfl) (by decide) ?_
        exact law_tree C1 hL hK hN j hj6 hI nxt _ _ _ hP hD hS hl
      by_cases c9 : sw = (9 : Int32)
      · refine lv_tableIn (tgt := 358) hx hb dL_law_33 (by rw [c9]; decide) (by rw [c9]; decide) (by rw [c9]; rfl) (by decide) ?_
        exact law_bind C1 hL hK hN j hj6 hI nxt _ _ _ hP hD hS hl
      by_cases c10 : sw = (10 : Int32)
      · refine lv_tableIn (tgt := 401) hx hb dL_law_33 (by rw [c10]; decide) (by rw [c10]; decide) (by rw [c10]; rfl) (by decide) ?_
        exact law_loosen C1 hL hK hN j hj6 hI nxt _ _ _ hP hD hS hl
      by_cases c11 : sw = (11 : Int32)
      · refine lv_tableIn (tgt := 424) hx hb dL_law_33 (by rw [c11]; decide) (by rw [c11]; decide) (by rw [c11]; rfl) (by decide) ?_
        exact law_bound C1 hL hK hN j hj6 hI nxt _ _ _ hP hD hS hl
      by_cases c12 : sw = (12 : Int32)
      · refine lv_tableIn (tgt := 458) hx hb dL_law_33 (by rw [c12]; decide) (by rw [c12]; decide) (by rw [c12]; rfl) (by decide) ?_
        exact law_fold C1 hL hK hN j hj6 hI nxt _ _ _ hP hD hS hl
      by_cases c13 : sw = (13 : Int32)
      · refine lv_tableIn (tgt := 528) hx hb dL_law_33 (by rw [c13]; decide) (by rw [c13]; decide) (by rw [c13]; rfl) (by decide) ?_
        exact law_spread C1 hL hK hN j hj6 hI nxt _ _ _ hP hD hS hl
      by_cases c14 : sw = (14 : Int32)
      · refine lv_tableIn (tgt := 607) hx hb dL_law_33 (by rw [c14]; decide) (by rw [c14]; decide) (by rw [c14]; rfl) (by decide) ?_
        exact law_best C1 hL hK hN j hj6 hI nxt _ _ _ hP hD hS hl
      by_cases c15 : sw = (15 : Int32)
      · refine lv_tableIn (tgt := 666) hx hb dL_law_33 (by rw [c15]; decide) (by rw [c15]; decide) (by rw [c15]; rfl) (by decide) ?_
        exact law_send C1 hL hK hN j hj6 hI nxt _ _ _ hP hD hS hl
      by_cases c16 : sw = (16 : Int32)
      · refine lv_tableIn (tgt := 725) hx hb dL_law_33 (by rw [c16]; decide) (by rw [c16]; decide) (by rw [c16]; rfl) (by decide) ?_
        exact law_count C1 hL hK hN j hj6 hI nxt _ _ _ hP hD hS hl
      by_cases c17 : sw = (17 : Int32)
      · refine lv_tableIn (tgt := 748) hx hb dL_law_33 (by rw [c17]; decide) (by rw [c17]; decide) (by rw [c17]; rfl) (by decide) ?_
        exact law_digest C1 hL hK hN j hj6 hI nxt _ _ _ hP hD hS hl
      refine lv_tableOut (tgt := 762) hx hb dL_law_33 (tblo_0_18 c0 c1 c2 c3 c4 c5 c6 c7 c8 c9 c10 c11 c12 c13 c14 c15 c16 c17) (by decide) ?_
      exact nxt _ _ _ _ _ _ _ _ _ _ _ _ _ _ _ _ _ _ _ _ _ _ _ _ _ _ _ _ _ _ _ _ _ _ _ _ _ _ _ _ _ _ _ _ _ _ _ _ _ _ _ _ _ _ _ _ _ _ _ _ _ _ hI _ _ _ hP hD hS hl
theorem k_arr {args : Array Value} {s : State} {ty : FieldType} (hty : ty = .int ∨ ty = .long) (h : (Cond.arrayClass ty).before args s = true) : ∃ cI : ClassId, ArrOfT s cI ty ∧ va_RA s cI ty := by
  obtain ⟨cA, kA, comp, h1, h2, h3⟩ := Cond.arrayClass_spec h
  refine ⟨cA, fun n z => ⟨fun k h => (by cases h), kA, h2, comp, h3⟩, ?_⟩
  rcases hty with rfl | rfl <;> exact h1
set_option maxHeartbeats 8000000 in
set_option maxRecDepth 100000 in
theorem whole_start {p : Program} {e : Env} {s : State} {m : MethodId} {below : List Frame} {meth : Method} {c : Code} (l : Launch) (hflags : l.flags = flags0) {b L : Nat} {xs : Nat → Int32} (hL : L ≤ 3072) (C0 : lw_At p s m meth c b L xs) : W p l e room_1 s m #[Value.ref b] below meth c s.heap [] 0 0 (lw_Z below #[Value.ref b] s) (entryFrame m ([Value.ref b] : List Value).toArray 4) := by
  obtain ⟨hx, hb, hr, hml, hown, hts0, hX, hbl, hlocks, hgv⟩ := id C0
  have hts := fun w h => hts0 w (wsL_law_in w h)
  have hown : s.vm.findClass RL = some m.cls := hown
  have hA : ∀ q : Nat, s.heap.size ≤ q → (fun q : Nat => s.heap.size ≤ q) q := fun _ h => h
  obtain ⟨c0, iS0, hKn0⟩ := u_known (C := RX0) (T := TX0) (N := 1) (n := 1) hts inlX0 (hat hts 25 rfl)
  obtain ⟨c1, iS1, hKn1⟩ := u_known (C := RX1) (T := TX1) (N := 7) (n := 7) hts inlX1 (hat hts 29 rfl)
  obtain ⟨c2, iS2, hKn2⟩ := u_known (C := RX2) (T := TX2) (N := 8) (n := 8) hts inlX2 (hat hts 17 rfl)
  obtain ⟨c3, iS3, hKn3⟩ := u_known (C := RX3) (T := TX3) (N := 5) (n := 5) hts inlX3 (hat hts 21 rfl)
  obtain ⟨c4, iS4, hKn4⟩ := u_known (C := RX4) (T := TX4) (N := 2) (n := 2) hts inlX4 (hat hts 13 rfl)
  obtain ⟨c5, iS5, hKn5⟩ := u_known (C := RX5) (T := TX5) (N := 10) (n := 10) hts inlX5 (hat hts 1 rfl)
  obtain ⟨c6, iS6, hKn6⟩ := u_known (C := RX6) (T := TX6) (N := 34) (n := 34) hts inlX6 (hat hts 4 rfl)
  obtain ⟨cI, hcI⟩ := k_arr (ty := .int) (Or.inl rfl) (hat hts 36 rfl)
  obtain ⟨cJ, hcJ⟩ := k_arr (ty := .long) (Or.inr rfl) (hat hts 55 rfl)
  obtain ⟨dC, dI, hKc⟩ : ∃ (dC : Nat → ClassId) (dI : Nat → Nat → Nat), ∀ (k : Nat) (q : vw_C), vwCl[k]? = some q → u_Kn s q.1 q.2.1 q.2.2 (dC k) (dI k) := by
    refine ⟨fun k => if k = 0 then c0 else if k = 1 then c1 else if k = 2 then c2 else if k = 3 then c3 else if k = 4 then c4 else if k = 5 then c5 else c6, fun k => if k = 0 then iS0 else if k = 1 then iS1 else if k = 2 then iS2 else if k = 3 then iS3 else if k = 4 then iS4 else if k = 5 then iS5 else iS6, ?_⟩
    intro k q hq
    match k, hq with
    | 0, hq => cases hq; exact hKn0
    | 1, hq => cases hq; exact hKn1
    | 2, hq => cases hq; exact hKn2
    | 3, hq => cases hq; exact hKn3
    | 4, hq => cases hq; exact hKn4
    | 5, hq => cases hq; exact hKn5
    | 6, hq => cases hq; exact hKn6
    | k + 7, hq => simp [vwCl] at hq
  have hK : va_K (dC, dI) vwCl (tyIJ cI cJ) s := ⟨hKc, fun k q h => by
    match k, h with
    | 0, h => cases h; exact hcI
    | 1, h => cases h; exact hcJ
    | k + 2, h => simp at h⟩
  have hN : NSt s := ⟨va_Nw.of rfl (hat hts0 149 (by decide +kernel)), va_Nw.of rfl (hat hts0 375 (by decide +kernel)), va_Nw.of rfl (hat hts0 432 (by decide +kernel)), va_Nw.of rfl (hat hts0 456 (by decide +kernel))⟩
  have hS : va_S (fun q : Nat => s.heap.size ≤ q) s.heap s.heap [] := va_S.rf
  have hP : va_P (dC, dI) vwCl [] s.heap := fun k q h => by simp at h
  have hD : va_D (fun q : Nat => s.heap.size ≤ q) [] := ⟨fun i j p q h => by simp at h, fun k q h => by simp at h⟩
  have hl := lv_entry ([.ref b]) (n := 4) (Nat.le_of_ble_eq_true rfl)
  rw [lg_entry_eq]
  generalize (lg_sl ([.ref b]) ++ List.replicate (4 - (lg_sl ([.ref b])).length) Slot.unset).toArray = ls at hl ⊢
  have hl : lv_has ls 4 [(0, .ref b)] := hl
  refine va_new (ci := 5) (fs := [.null, .null, .null, .null, .null, .int 0, .int 0, .int 0, .int 0, .int 0]) (C := RX5) (T := TX5) (N := 10) hx hb hts inlX5 tyX5 tyX5_ok hown (hat hts 0 rfl) (hat hts 1 rfl) (hat hts 2 rfl) hK hP hD hS hA rfl (fun j hj => by rcases (show j = 0 ∨ j = 1 ∨ j = 2 ∨ j = 3 ∨ j = 4 ∨ j = 5 ∨ j = 6 ∨ j = 7 ∨ j = 8 ∨ j = 9 by omega) with rfl | rfl | rfl | rfl | rfl | rfl | rfl | rfl | rfl | rfl <;> rfl) (Nat.le_of_ble_eq_true rfl) (Nat.le_of_ble_eq_true rfl) dL_law_0 (fun q1 H hP hD hS => ?_)
  have hP : va_P (dC, dI) vwCl [(q1, .inr (5, [.null, .null, .null, .null, .null, .int 0, .int 0, .int 0, .int 0, .int 0]))] H := hP
  have hD : va_D (fun q : Nat => s.heap.size ≤ q) [(q1, .inr (5, [.null, .null, .null, .null, .null, .int 0, .int 0, .int 0, .int 0, .int 0]))] := hD
  refine W.widen (k := 1) (n := 10) (Nat.le_of_ble_eq_true rfl) (Nat.le_of_ble_eq_true rfl) ?_
  refine lv_dup hx hb dL_law_3 rfl ?_
  have hPc := hP.sub (ws' := [(q1, .inr (5, [.null, .null, .null, .null, .null, .int 0, .int 0, .int 0, .int 0, .int 0]))]) [0] rfl
  have hDc := hD.sub (ws' := [(q1, .inr (5, [.null, .null, .null, .null, .null, .int 0, .int 0, .int 0, .int 0, .int 0]))]) [0] (by decide) rfl
  have hFc := va_free (wc := [(q1, .inr (5, [.null, .null, .null, .null, .null, .int 0, .int 0, .int 0, .int 0, .int 0]))]) hD hS hA [0] rfl
  refine va_callv (va_runI (As := []) (rest := [.ref q1]) ⟨hx, hb, hml, hown, hts⟩ (c_X5_init l (dC, dI) cI cJ q1 H.size) (cwI 0 hts gL_law_X5_init rfl rfl rfl (hat hts 2 rfl) (hat hts 6 rfl) (hat hts 7 rfl) rfl (by decide +kernel) ⟨Nat.le_of_ble_eq_true rfl, Nat.le_of_ble_eq_true rfl⟩) (fr_preS hK hN hPc hDc) rfl rfl hl.1 rfl (lv_room (Nat.le_of_ble_eq_true rfl)) dL_law_4 ⟨Nat.le_of_ble_eq_true rfl, Nat.le_of_ble_eq_true rfl⟩) hS (fun q _ h => hFc q h) hFc (fun u t H1 locs ht hvm hw hB hz1 hk1 hS => ?_)
  obtain ⟨q2, q3, q4, q5, q6, q7, q8, q9, q10, q11, q12, q13, q14, q15, hP1, hK1, hD1⟩ := hB
  rw [ht] at hP1
  obtain ⟨hP, hD⟩ := va_join (wr := []) (w1 := [(q1, .inr (5, [.ref q2, .ref q4, .ref q11, .ref q13, .ref q15, .int 0, .int 0, .int 0, .int 0, .int 0])), (q2, .inr (4, [.ref q3, .int 0])), (q3, .inl (cI, 25, .inl (fun _ => 0))), (q4, .inr (2, [.int 0, .int 0, .ref q5, .ref q6, .ref q7, .ref q8, .ref q9, .ref q10])), (q5, .inl (cI, 16, .inl (fun _ => 0))), (q6, .inl (cI, 16, .inl (fun _ => 0))), (q7, .inl (cI, 36, .inl (fun _ => 0))), (q8, .inl (cI, 36, .inl (fun _ => 0))), (q9, .inl (cI, 36, .inl (fun _ => 0))), (q10, .inl (cI, 36, .inl (fun _ => 0))), (q11, .inr (3, [.int 16, .int 3, .int 1, .long 0, .ref q12])), (q12, .inl (cJ, 60, .inr (.inl (fun _ => 0)))), (q13, .inr (0, [.ref q14])), (q14, .inl (cI, 4, .inl (fun _ => 0))), (q15, .inr (1, [.int 0, .int 0, .int 0, .int 0, .int 0, .int 0, .int 0]))]) hP hD [0] [] rfl rfl (by decide) (by decide) hk1 hFc hP1 hD1
  generalize H1 = H at hP hS ⊢
  have hP : va_P (dC, dI) vwCl [(q1, .inr (5, [.ref q2, .ref q4, .ref q11, .ref q13, .ref q15, .int 0, .int 0, .int 0, .int 0, .int 0])), (q2, .inr (4, [.ref q3, .int 0])), (q3, .inl (cI, 25, .inl (fun _ => 0))), (q4, .inr (2, [.int 0, .int 0, .ref q5, .ref q6, .ref q7, .ref q8, .ref q9, .ref q10])), (q5, .inl (cI, 16, .inl (fun _ => 0))), (q6, .inl (cI, 16, .inl (fun _ => 0))), (q7, .inl (cI, 36, .inl (fun _ => 0))), (q8, .inl (cI, 36, .inl (fun _ => 0))), (q9, .inl (cI, 36, .inl (fun _ => 0))), (q10, .inl (cI, 36, .inl (fun _ => 0))), (q11, .inr (3, [.int 16, .int 3, .int 1, .long 0, .ref q12])), (q12, .inl (cJ, 60, .inr (.inl (fun _ => 0)))), (q13, .inr (0, [.ref q14])), (q14, .inl (cI, 4, .inl (fun _ => 0))), (q15, .inr (1, [.int 0, .int 0, .int 0, .int 0, .int 0, .int 0, .int 0]))] H := hP
  have hD : va_D (fun q : Nat => s.heap.size ≤ q) [(q1, .inr (5, [.ref q2, .ref q4, .ref q11, .ref q13, .ref q15, .int 0, .int 0, .int 0, .int 0, .int 0])), (q2, .inr (4, [.ref q3, .int 0])), (q3, .inl (cI, 25, .inl (fun _ => 0))), (q4, .inr (2, [.int 0, .int 0, .ref q5, .ref q6, .ref q7, .ref q8, .ref q9, .ref q10])), (q5, .inl (cI, 16, .inl (fun _ => 0))), (q6, .inl (cI, 16, .inl (fun _ => 0))), (q7, .inl (cI, 36, .inl (fun _ => 0))), (q8, .inl (cI, 36, .inl (fun _ => 0))), (q9, .inl (cI, 36, .inl (fun _ => 0))), (q10, .inl (cI, 36, .inl (fun _ => 0))), (q11, .inr (3, [.int 16, .int 3, .int 1, .long 0, .ref q12])), (q12, .inl (cJ, 60, .inr (.inl (fun _ => 0)))), (q13, .inr (0, [.ref q14])), (q14, .inl (cI, 4, .inl (fun _ => 0))), (q15, .inr (1, [.int 0, .int 0, .int 0, .int 0, .int 0, .int 0, .int 0]))] := hD
  refine W.widen (k := 15) (n := 298) (Nat.le_of_ble_eq_true rfl) (Nat.le_of_ble_eq_true rfl) ?_
  refine lv_astore_n (lv' := [(1, .ref q1), (0, .ref b)]) hx hb dL_law_7 rfl hl (by decide) rfl (fun ls hl => ?_)
  refine va_new (ci := 6) (fs := [.int 0, .null, .int 0, .int 0, .null, .null, .int 0, .int 0, .int 0, .null, .int 0, .int 0, .int 0, .int 0, .int 0, .int 0, .int 0, .int 0, .int 0, .null, .null, .null, .long 0, .null, .int 0, .null, .long 0, .int 0, .int 0, .int 0, .int 0, .int 0, .int 0, .long 0]) (C := RX6) (T := TX6) (N := 34) hx hb hts inlX6 tyX6 tyX6_ok hown (hat hts 3 rfl) (hat hts 4 rfl) (hat hts 5 rfl) hK hP hD hS hA rfl (fun j hj => by rcases (show j = 0 ∨ j = 1 ∨ j = 2 ∨ j = 3 ∨ j = 4 ∨ j = 5 ∨ j = 6 ∨ j = 7 ∨ j = 8 ∨ j = 9 ∨ j = 10 ∨ j = 11 ∨ j = 12 ∨ j = 13 ∨ j = 14 ∨ j = 15 ∨ j = 16 ∨ j = 17 ∨ j = 18 ∨ j = 19 ∨ j = 20 ∨ j = 21 ∨ j = 22 ∨ j = 23 ∨ j = 24 ∨ j = 25 ∨ j = 26 ∨ j = 27 ∨ j = 28 ∨ j = 29 ∨ j = 30 ∨ j = 31 ∨ j = 32 ∨ j = 33 by omega) with rfl | rfl | rfl | rfl | rfl | rfl | rfl | rfl | rfl | rfl | rfl | rfl | rfl | rfl | rfl | rfl | rfl | rfl | rfl | rfl | rfl | rfl | rfl | rfl | rfl | rfl | rfl | rfl | rfl | rfl | rfl | rfl | rfl | rfl <;> rfl) (Nat.le_of_ble_eq_true rfl) (Nat.le_of_ble_eq_true rfl) dL_law_8 (fun q16 H hP hD hS => ?_)
  have hP : va_P (dC, dI) vwCl [(q1, .inr (5, [.ref q2, .ref q4, .ref q11, .ref q13, .ref q15, .int 0, .int 0, .int 0, .int 0, .int 0])), (q2, .inr (4, [.ref q3, .int 0])), (q3, .inl (cI, 25, .inl (fun _ => 0))), (q4, .inr (2, [.int 0, .int 0, .ref q5, .ref q6, .ref q7, .ref q8, .ref q9, .ref q10])), (q5, .inl (cI, 16, .inl (fun _ => 0))), (q6, .inl (cI, 16, .inl (fun _ => 0))), (q7, .inl (cI, 36, .inl (fun _ => 0))), (q8, .inl (cI, 36, .inl (fun _ => 0))), (q9, .inl (cI, 36, .inl (fun _ => 0))), (q10, .inl (cI, 36, .inl (fun _ => 0))), (q11, .inr (3, [.int 16, .int 3, .int 1, .long 0, .ref q12])), (q12, .inl (cJ, 60, .inr (.inl (fun _ => 0)))), (q13, .inr (0, [.ref q14])), (q14, .inl (cI, 4, .inl (fun _ => 0))), (q15, .inr (1, [.int 0, .int 0, .int 0, .int 0, .int 0, .int 0, .int 0])), (q16, .inr (6, [.int 0, .null, .int 0, .int 0, .null, .null, .int 0, .int 0, .int 0, .null, .int 0, .int 0, .int 0, .int 0, .int 0, .int 0, .int 0, .int 0, .int 0, .null, .null, .null, .long 0, .null, .int 0, .null, .long 0, .int 0, .int 0, .int 0, .int 0, .int 0, .int 0, .long 0]))] H := hP
  have hD : va_D (fun q : Nat => s.heap.size ≤ q) [(q1, .inr (5, [.ref q2, .ref q4, .ref q11, .ref q13, .ref q15, .int 0, .int 0, .int 0, .int 0, .int 0])), (q2, .inr (4, [.ref q3, .int 0])), (q3, .inl (cI, 25, .inl (fun _ => 0))), (q4, .inr (2, [.int 0, .int 0, .ref q5, .ref q6, .ref q7, .ref q8, .ref q9, .ref q10])), (q5, .inl (cI, 16, .inl (fun _ => 0))), (q6, .inl (cI, 16, .inl (fun _ => 0))), (q7, .inl (cI, 36, .inl (fun _ => 0))), (q8, .inl (cI, 36, .inl (fun _ => 0))), (q9, .inl (cI, 36, .inl (fun _ => 0))), (q10, .inl (cI, 36, .inl (fun _ => 0))), (q11, .inr (3, [.int 16, .int 3, .int 1, .long 0, .ref q12])), (q12, .inl (cJ, 60, .inr (.inl (fun _ => 0)))), (q13, .inr (0, [.ref q14])), (q14, .inl (cI, 4, .inl (fun _ => 0))), (q15, .inr (1, [.int 0, .int 0, .int 0, .int 0, .int 0, .int 0, .int 0])), (q16, .inr (6, [.int 0, .null, .int 0, .int 0, .null, .null, .int 0, .int 0, .int 0, .null, .int 0, .int 0, .int 0, .int 0, .int 0, .int 0, .int 0, .int 0, .int 0, .null, .null, .null, .long 0, .null, .int 0, .null, .long 0, .int 0, .int 0, .int 0, .int 0, .int 0, .int 0, .long 0]))] := hD
  refine W.widen (k := 16) (n := 332) (Nat.le_of_ble_eq_true rfl) (Nat.le_of_ble_eq_true rfl) ?_
  refine lv_dup hx hb dL_law_11 rfl ?_
  have hPc := hP.sub (ws' := [(q16, .inr (6, [.int 0, .null, .int 0, .int 0, .null, .null, .int 0, .int 0, .int 0, .null, .int 0, .int 0, .int 0, .int 0, .int 0, .int 0, .int 0, .int 0, .int 0, .null, .null, .null, .long 0, .null, .int 0, .null, .long 0, .int 0, .int 0, .int 0, .int 0, .int 0, .int 0, .long 0]))]) [15] rfl
  have hDc := hD.sub (ws' := [(q16, .inr (6, [.int 0, .null, .int 0, .int 0, .null, .null, .int 0, .int 0, .int 0, .null, .int 0, .int 0, .int 0, .int 0, .int 0, .int 0, .int 0, .int 0, .int 0, .null, .null, .null, .long 0, .null, .int 0, .null, .long 0, .int 0, .int 0, .int 0, .int 0, .int 0, .int 0, .long 0]))]) [15] (by decide) rfl
  have hFc := va_free (wc := [(q16, .inr (6, [.int 0, .null, .int 0, .int 0, .null, .null, .int 0, .int 0, .int 0, .null, .int 0, .int 0, .int 0, .int 0, .int 0, .int 0, .int 0, .int 0, .int 0, .null, .null, .null, .long 0, .null, .int 0, .null, .long 0, .int 0, .int 0, .int 0, .int 0, .int 0, .int 0, .long 0]))]) hD hS hA [15] rfl
  refine va_callv (va_runI (As := []) (rest := [.ref q16]) ⟨hx, hb, hml, hown, hts⟩ (c_X6_init l (dC, dI) cI cJ q16 H.size) (cwI 0 hts gL_law_X6_init rfl rfl rfl (hat hts 5 rfl) (hat hts 65 rfl) (hat hts 66 rfl) rfl (by decide +kernel) ⟨Nat.le_of_ble_eq_true rfl, Nat.le_of_ble_eq_true rfl⟩) (fr_preS hK hN hPc hDc) rfl rfl hl.1 rfl (lv_room (Nat.le_of_ble_eq_true rfl)) dL_law_12 ⟨Nat.le_of_ble_eq_true rfl, Nat.le_of_ble_eq_true rfl⟩) hS (fun q _ h => hFc q h) hFc (fun u t H1 locs ht hvm hw hB hz1 hk1 hS => ?_)
  obtain ⟨q17, q18, q19, q20, q21, q22, q23, q24, q25, hP1, hK1, hD1⟩ := hB
  rw [ht] at hP1
  obtain ⟨hP, hD⟩ := va_join (wr := [(q1, .inr (5, [.ref q2, .ref q4, .ref q11, .ref q13, .ref q15, .int 0, .int 0, .int 0, .int 0, .int 0])), (q2, .inr (4, [.ref q3, .int 0])), (q3, .inl (cI, 25, .inl (fun _ => 0))), (q4, .inr (2, [.int 0, .int 0, .ref q5, .ref q6, .ref q7, .ref q8, .ref q9, .ref q10])), (q5, .inl (cI, 16, .inl (fun _ => 0))), (q6, .inl (cI, 16, .inl (fun _ => 0))), (q7, .inl (cI, 36, .inl (fun _ => 0))), (q8, .inl (cI, 36, .inl (fun _ => 0))), (q9, .inl (cI, 36, .inl (fun _ => 0))), (q10, .inl (cI, 36, .inl (fun _ => 0))), (q11, .inr (3, [.int 16, .int 3, .int 1, .long 0, .ref q12])), (q12, .inl (cJ, 60, .inr (.inl (fun _ => 0)))), (q13, .inr (0, [.ref q14])), (q14, .inl (cI, 4, .inl (fun _ => 0))), (q15, .inr (1, [.int 0, .int 0, .int 0, .int 0, .int 0, .int 0, .int 0]))]) (w1 := [(q16, .inr (6, [.int 0, .ref q17, .int 0, .int 0, .ref q18, .ref q19, .int 16, .int 3, .int 1, .ref q20, .int 0, .int 0, .int 0, .int 0, .int 0, .int 0, .int 0, .int 0, .int 0, .ref q21, .ref q22, .ref q23, .long 0, .ref q24, .int 0, .ref q25, .long 0, .int 0, .int 0, .int 0, .int 0, .int 0, .int 0, .long 0])), (q17, .inl (cI, 25, .inl (fun _ => 0))), (q18, .inl (cI, 16, .inl (fun _ => 0))), (q19, .inl (cI, 16, .inl (fun _ => 0))), (q20, .inl (cI, 4, .inl (fun _ => 0))), (q21, .inl (cI, 8, .inl (fun _ => 0))), (q22, .inl (cI, 8, .inl (fun _ => 0))), (q23, .inl (cJ, 60, .inr (.inl (fun _ => 0)))), (q24, .inl (cI, 6, .inl (fun _ => 0))), (q25, .inl (cI, 6, .inl (fun _ => 0)))]) hP hD [15] [0, 1, 2, 3, 4, 5, 6, 7, 8, 9, 10, 11, 12, 13, 14] rfl rfl (by decide) (by decide) hk1 hFc hP1 hD1
  generalize H1 = H at hP hS ⊢
  have hP : va_P (dC, dI) vwCl [(q1, .inr (5, [.ref q2, .ref q4, .ref q11, .ref q13, .ref q15, .int 0, .int 0, .int 0, .int 0, .int 0])), (q2, .inr (4, [.ref q3, .int 0])), (q3, .inl (cI, 25, .inl (fun _ => 0))), (q4, .inr (2, [.int 0, .int 0, .ref q5, .ref q6, .ref q7, .ref q8, .ref q9, .ref q10])), (q5, .inl (cI, 16, .inl (fun _ => 0))), (q6, .inl (cI, 16, .inl (fun _ => 0))), (q7, .inl (cI, 36, .inl (fun _ => 0))), (q8, .inl (cI, 36, .inl (fun _ => 0))), (q9, .inl (cI, 36, .inl (fun _ => 0))), (q10, .inl (cI, 36, .inl (fun _ => 0))), (q11, .inr (3, [.int 16, .int 3, .int 1, .long 0, .ref q12])), (q12, .inl (cJ, 60, .inr (.inl (fun _ => 0)))), (q13, .inr (0, [.ref q14])), (q14, .inl (cI, 4, .inl (fun _ => 0))), (q15, .inr (1, [.int 0, .int 0, .int 0, .int 0, .int 0, .int 0, .int 0])), (q16, .inr (6, [.int 0, .ref q17, .int 0, .int 0, .ref q18, .ref q19, .int 16, .int 3, .int 1, .ref q20, .int 0, .int 0, .int 0, .int 0, .int 0, .int 0, .int 0, .int 0, .int 0, .ref q21, .ref q22, .ref q23, .long 0, .ref q24, .int 0, .ref q25, .long 0, .int 0, .int 0, .int 0, .int 0, .int 0, .int 0, .long 0])), (q17, .inl (cI, 25, .inl (fun _ => 0))), (q18, .inl (cI, 16, .inl (fun _ => 0))), (q19, .inl (cI, 16, .inl (fun _ => 0))), (q20, .inl (cI, 4, .inl (fun _ => 0))), (q21, .inl (cI, 8, .inl (fun _ => 0))), (q22, .inl (cI, 8, .inl (fun _ => 0))), (q23, .inl (cJ, 60, .inr (.inl (fun _ => 0)))), (q24, .inl (cI, 6, .inl (fun _ => 0))), (q25, .inl (cI, 6, .inl (fun _ => 0)))] H := hP
  have hD : va_D (fun q : Nat => s.heap.size ≤ q) [(q1, .inr (5, [.ref q2, .ref q4, .ref q11, .ref q13, .ref q15, .int 0, .int 0, .int 0, .int 0, .int 0])), (q2, .inr (4, [.ref q3, .int 0])), (q3, .inl (cI, 25, .inl (fun _ => 0))), (q4, .inr (2, [.int 0, .int 0, .ref q5, .ref q6, .ref q7, .ref q8, .ref q9, .ref q10])), (q5, .inl (cI, 16, .inl (fun _ => 0))), (q6, .inl (cI, 16, .inl (fun _ => 0))), (q7, .inl (cI, 36, .inl (fun _ => 0))), (q8, .inl (cI, 36, .inl (fun _ => 0))), (q9, .inl (cI, 36, .inl (fun _ => 0))), (q10, .inl (cI, 36, .inl (fun _ => 0))), (q11, .inr (3, [.int 16, .int 3, .int 1, .long 0, .ref q12])), (q12, .inl (cJ, 60, .inr (.inl (fun _ => 0)))), (q13, .inr (0, [.ref q14])), (q14, .inl (cI, 4, .inl (fun _ => 0))), (q15, .inr (1, [.int 0, .int 0, .int 0, .int 0, .int 0, .int 0, .int 0])), (q16, .inr (6, [.int 0, .ref q17, .int 0, .int 0, .ref q18, .ref q19, .int 16, .int 3, .int 1, .ref q20, .int 0, .int 0, .int 0, .int 0, .int 0, .int 0, .int 0, .int 0, .int 0, .ref q21, .ref q22, .ref q23, .long 0, .ref q24, .int 0, .ref q25, .long 0, .int 0, .int 0, .int 0, .int 0, .int 0, .int 0, .long 0])), (q17, .inl (cI, 25, .inl (fun _ => 0))), (q18, .inl (cI, 16, .inl (fun _ => 0))), (q19, .inl (cI, 16, .inl (fun _ => 0))), (q20, .inl (cI, 4, .inl (fun _ => 0))), (q21, .inl (cI, 8, .inl (fun _ => 0))), (q22, .inl (cI, 8, .inl (fun _ => 0))), (q23, .inl (cJ, 60, .inr (.inl (fun _ => 0)))), (q24, .inl (cI, 6, .inl (fun _ => 0))), (q25, .inl (cI, 6, .inl (fun _ => 0)))] := hD
  refine W.widen (k := 25) (n := 481) (Nat.le_of_ble_eq_true rfl) (Nat.le_of_ble_eq_true rfl) ?_
  refine lv_astore_n (lv' := [(2, .ref q16), (1, .ref q1), (0, .ref b)]) hx hb dL_law_15 rfl hl (by decide) rfl (fun ls hl => ?_)
  refine lv_iconst (v := 0) hx hb dL_law_16 (by decide) ?_
  refine lv_istore_n (lv' := [(3, .int 0), (2, .ref q16), (1, .ref q1), (0, .ref b)]) hx hb dL_law_17 rfl hl (by decide) rfl (fun ls hl => ?_)
  exact law_loop (D := (dC, dI)) (cI := cI) (cJ := cJ) (ad := fun k => ([q1, q2, q3, q4, q5, q6, q7, q8, q9, q10, q11, q12, q13, q14, q15, q16, q17, q18, q19, q20, q21, q22, q23, q24, q25] : List Nat).getD k 0) C0 hL hK hN (L + 7) 0 0 0 0 0 0 (fun _ => 0) 0 0 0 (fun _ => 0) (fun _ => 0) (fun _ => 0) (fun _ => 0) (fun _ => 0) (fun _ => 0) 16 3 1 0 (fun _ => 0) (fun _ => 0) 0 0 0 0 0 0 0 0 (fun _ => 0) 0 0 (fun _ => 0) (fun _ => 0) 16 3 1 (fun _ => 0) 0 0 0 0 0 0 0 0 0 (fun _ => 0) (fun _ => 0) (fun _ => 0) 0 (fun _ => 0) 0 (fun _ => 0) 0 0 0 0 0 0 0 0 (by omega) (by omega) inv_init _ _ _ hP hD hS (lv_sub hl [3, 2, 1, 0] rfl)
