theorem inv_init : Inv 0 0 0 0 0 (fun _ => 0) 0 0 0 (fun _ => 0) (fun _ => 0) (fun _ => 0) (fun _ => 0) (fun _ => 0) 16 3 1 (fun _ => 0) (fun _ => 0) 0 (fun _ => 0) 0 0 (fun _ => 0) (fun _ => 0) 16 3 1 (fun _ => 0) 0 0 0 0 0 (fun _ => 0) := by
  refine ⟨⟨rfl, rfl, rfl, rfl, rfl⟩, ⟨rfl, rfl, rfl, rfl, rfl, rfl, rfl, rfl, rfl, rfl⟩, 0, 0, 0, fun _ => 0, fun _ => 0, 16, 3, 1, ⟨by omega, rfl⟩, ⟨rfl, rfl, ⟨by omega, by omega, fun k h => absurd h (Nat.not_lt_zero k), fun i j h => absurd h (Nat.not_lt_zero i)⟩, fun k h => absurd h (Nat.not_lt_zero k), fun v t h => absurd h (Nat.not_lt_zero v)⟩, ⟨by omega, by omega, by omega, by omega, by omega, rfl, rfl, rfl, fun v k hv hk => ⟨rfl, 0, Nat.two_pow_pos 40, rfl⟩⟩, fun p hp => ⟨0, by omega, rfl⟩⟩
set_option maxHeartbeats 1000000 in
theorem sim_letter {xx_netsRead xx_timesSent xx_passagesSent xx_astraySent xx_loopsSent : Int32} {pg_codes : Nat → Int32} {pg_length gr_nodes gr_links : Int32} {gr_start gr_end gr_wayLength gr_wayNext gr_wayLinks : Nat → Int32} {mk_width mk_drawn mk_seed : Int32} {mk_bits : Nat → Int64} {bn_links : Nat → Int32} {mo_pageLength : Int32} {mo_page : Nat → Int32} {mo_nodes mo_links : Int32} {mo_fromOf mo_toOf : Nat → Int32} {mo_width mo_drawn mo_seed : Int32} {mo_bundleOf : Nat → Int32} {mo_netsRead mo_sent mo_passagesEver mo_astrayEver mo_loopsEver : Int32} {mo_marks : Nat → Int64} (hI : Inv xx_netsRead xx_timesSent xx_passagesSent xx_astraySent xx_loopsSent pg_codes pg_length gr_nodes gr_links gr_start gr_end gr_wayLength gr_wayNext gr_wayLinks mk_width mk_drawn mk_seed mk_bits bn_links mo_pageLength mo_page mo_nodes mo_links mo_fromOf mo_toOf mo_width mo_drawn mo_seed mo_bundleOf mo_netsRead mo_sent mo_passagesEver mo_astrayEver mo_loopsEver mo_marks) (x1 : Int32)  : ∃ (r : Int32) (n_pg_codes : Nat → Int32) (n_pg_length : Int32) (n_mo_pageLength : Int32) (n_mo_page : Nat → Int32), f_X5_letter pg_codes pg_length x1 = some (r, n_pg_codes, n_pg_length) ∧ f_X6_letter mo_pageLength mo_page x1 = some (r, n_mo_pageLength, n_mo_page) ∧ Inv xx_netsRead xx_timesSent xx_passagesSent xx_astraySent xx_loopsSent n_pg_codes n_pg_length gr_nodes gr_links gr_start gr_end gr_wayLength gr_wayNext gr_wayLinks mk_width mk_drawn mk_seed mk_bits bn_links n_mo_pageLength n_mo_page mo_nodes mo_links mo_fromOf mo_toOf mo_width mo_drawn mo_seed mo_bundleOf mo_netsRead mo_sent mo_passagesEver mo_astrayEver mo_loopsEver mo_marks := by
  have hI0 := hI
  obtain ⟨⟨e1, e2, e3, e4, e5⟩, ⟨p1, p2, p3, p4, p5, p6, p7, p8, p9, p10⟩, n, N, K, fr, to, W, Dn, S, ⟨hn, hlen⟩, ⟨hg1, hg2, hwf, hse, hways⟩, ⟨hw1, hw2, hd1, hd2, hS, hm1, hm2, hm3, hmk⟩, hB⟩ := hI
  subst e1 e2 e3 e4 e5 p1 p2 p3 p4 p5 p6 p7 p8 p9 p10 hlen hg1 hg2 hm1 hm2 hm3
  have hN6 := hwf.1
  have hK16 := hwf.2.1
  unfold f_X5_letter f_X6_letter
  by_cases h1 : x1 < 32
  · exact ⟨-1002, _, _, _, _, if_pos h1, if_pos (wi_0 (Or.inl h1)), hI0⟩
  · by_cases h2 : x1 ≤ 126
    · have h3 : ¬ (126 : Int32) < x1 := by rw [fa_lt]; rw [fa_le] at h2; omega
      rw [if_neg h1, if_pos h2, wi_1 h1 h3, if_neg ne10]
      by_cases h4 : n = 25
      · subst h4
        exact ⟨-1004, _, _, _, _, if_neg (by decide), if_pos rfl, hI0⟩
      · have h5 : f_X4_isFull (nI n) = 0 := if_pos (show nI n < nI 25 from nI_lt (by omega) (by decide))
        have h6 : ¬ nI n = 25 := fun e => h4 ((nI_eq (a := n) (b := 25) (by omega) (by decide)).mp e)
        rw [if_pos h5, if_neg h6, if_neg (ix_ok (by omega) (by omega))]
        unfold f_X4_append f_X4_size
        rw [if_neg (show ¬ (25 : Int32) ≤ nI n from nI_ge (b := 25) (by omega) (by decide)), if_neg (ix_ok (by omega) (by omega))]
        refine ⟨_, _, _, _, _, rfl, rfl, ?_⟩
        exact ⟨⟨rfl, rfl, rfl, rfl, rfl⟩, ⟨rfl, rfl, rfl, rfl, rfl, rfl, rfl, rfl, rfl, rfl⟩, n + 1, N, K, fr, to, W, Dn, S, ⟨by omega, nI_1 n⟩, ⟨rfl, rfl, hwf, hse, hways⟩, ⟨hw1, hw2, hd1, hd2, hS, rfl, rfl, rfl, hmk⟩, hB⟩
    · have h3 : (126 : Int32) < x1 := by rw [fa_lt]; rw [fa_le] at h2; omega
      exact ⟨-1002, _, _, _, _, (if_neg h1).trans (if_neg h2), if_pos (wi_0 (Or.inr h3)), hI0⟩
set_option maxHeartbeats 1000000 in
theorem sim_blank {xx_netsRead xx_timesSent xx_passagesSent xx_astraySent xx_loopsSent : Int32} {pg_codes : Nat → Int32} {pg_length gr_nodes gr_links : Int32} {gr_start gr_end gr_wayLength gr_wayNext gr_wayLinks : Nat → Int32} {mk_width mk_drawn mk_seed : Int32} {mk_bits : Nat → Int64} {bn_links : Nat → Int32} {mo_pageLength : Int32} {mo_page : Nat → Int32} {mo_nodes mo_links : Int32} {mo_fromOf mo_toOf : Nat → Int32} {mo_width mo_drawn mo_seed : Int32} {mo_bundleOf : Nat → Int32} {mo_netsRead mo_sent mo_passagesEver mo_astrayEver mo_loopsEver : Int32} {mo_marks : Nat → Int64} (hI : Inv xx_netsRead xx_timesSent xx_passagesSent xx_astraySent xx_loopsSent pg_codes pg_length gr_nodes gr_links gr_start gr_end gr_wayLength gr_wayNext gr_wayLinks mk_width mk_drawn mk_seed mk_bits bn_links mo_pageLength mo_page mo_nodes mo_links mo_fromOf mo_toOf mo_width mo_drawn mo_seed mo_bundleOf mo_netsRead mo_sent mo_passagesEver mo_astrayEver mo_loopsEver mo_marks)   : ∃ (r : Int32) (n_pg_length : Int32) (n_mo_pageLength : Int32), f_X5_blank pg_length = (r, n_pg_length) ∧ f_X6_blank mo_pageLength = (r, n_mo_pageLength) ∧ Inv xx_netsRead xx_timesSent xx_passagesSent xx_astraySent xx_loopsSent pg_codes n_pg_length gr_nodes gr_links gr_start gr_end gr_wayLength gr_wayNext gr_wayLinks mk_width mk_drawn mk_seed mk_bits bn_links n_mo_pageLength mo_page mo_nodes mo_links mo_fromOf mo_toOf mo_width mo_drawn mo_seed mo_bundleOf mo_netsRead mo_sent mo_passagesEver mo_astrayEver mo_loopsEver mo_marks := by
  have hI0 := hI
  obtain ⟨⟨e1, e2, e3, e4, e5⟩, ⟨p1, p2, p3, p4, p5, p6, p7, p8, p9, p10⟩, n, N, K, fr, to, W, Dn, S, ⟨hn, hlen⟩, ⟨hg1, hg2, hwf, hse, hways⟩, ⟨hw1, hw2, hd1, hd2, hS, hm1, hm2, hm3, hmk⟩, hB⟩ := hI
  subst e1 e2 e3 e4 e5 p1 p2 p3 p4 p5 p6 p7 p8 p9 p10 hlen hg1 hg2 hm1 hm2 hm3
  have hN6 := hwf.1
  have hK16 := hwf.2.1
  exact ⟨_, _, _, rfl, rfl, ⟨rfl, rfl, rfl, rfl, rfl⟩, ⟨rfl, rfl, rfl, rfl, rfl, rfl, rfl, rfl, rfl, rfl⟩, 0, N, K, fr, to, W, Dn, S, ⟨by omega, rfl⟩, ⟨rfl, rfl, hwf, hse, hways⟩, ⟨hw1, hw2, hd1, hd2, hS, rfl, rfl, rfl, hmk⟩, hB⟩
set_option maxHeartbeats 1000000 in
theorem sim_fault {xx_netsRead xx_timesSent xx_passagesSent xx_astraySent xx_loopsSent : Int32} {pg_codes : Nat → Int32} {pg_length gr_nodes gr_links : Int32} {gr_start gr_end gr_wayLength gr_wayNext gr_wayLinks : Nat → Int32} {mk_width mk_drawn mk_seed : Int32} {mk_bits : Nat → Int64} {bn_links : Nat → Int32} {mo_pageLength : Int32} {mo_page : Nat → Int32} {mo_nodes mo_links : Int32} {mo_fromOf mo_toOf : Nat → Int32} {mo_width mo_drawn mo_seed : Int32} {mo_bundleOf : Nat → Int32} {mo_netsRead mo_sent mo_passagesEver mo_astrayEver mo_loopsEver : Int32} {mo_marks : Nat → Int64} {mo_newOne : Int32} {mo_newFrom mo_newTo : Nat → Int32} (hI : Inv xx_netsRead xx_timesSent xx_passagesSent xx_astraySent xx_loopsSent pg_codes pg_length gr_nodes gr_links gr_start gr_end gr_wayLength gr_wayNext gr_wayLinks mk_width mk_drawn mk_seed mk_bits bn_links mo_pageLength mo_page mo_nodes mo_links mo_fromOf mo_toOf mo_width mo_drawn mo_seed mo_bundleOf mo_netsRead mo_sent mo_passagesEver mo_astrayEver mo_loopsEver mo_marks)   : ∃ (r : Int32) (n_mo_newNodes : Int32) (n_mo_newPairs : Int32) (n_mo_due : Int32) (n_mo_newOne : Int32) (n_mo_newFrom : Nat → Int32) (n_mo_newTo : Nat → Int32), f_X5_fault pg_codes pg_length = some r ∧ f_X6_fault mo_pageLength mo_page mo_newOne mo_newFrom mo_newTo = some (r, n_mo_newNodes, n_mo_newPairs, n_mo_due, n_mo_newOne, n_mo_newFrom, n_mo_newTo) ∧ Inv xx_netsRead xx_timesSent xx_passagesSent xx_astraySent xx_loopsSent pg_codes pg_length gr_nodes gr_links gr_start gr_end gr_wayLength gr_wayNext gr_wayLinks mk_width mk_drawn mk_seed mk_bits bn_links mo_pageLength mo_page mo_nodes mo_links mo_fromOf mo_toOf mo_width mo_drawn mo_seed mo_bundleOf mo_netsRead mo_sent mo_passagesEver mo_astrayEver mo_loopsEver mo_marks := by
  have hI0 := hI
  obtain ⟨⟨e1, e2, e3, e4, e5⟩, ⟨p1, p2, p3, p4, p5, p6, p7, p8, p9, p10⟩, n, N, K, fr, to, W, Dn, S, ⟨hn, hlen⟩, ⟨hg1, hg2, hwf, hse, hways⟩, ⟨hw1, hw2, hd1, hd2, hS, hm1, hm2, hm3, hmk⟩, hB⟩ := hI
  subst e1 e2 e3 e4 e5 p1 p2 p3 p4 p5 p6 p7 p8 p9 p10 hlen hg1 hg2 hm1 hm2 hm3
  have hN6 := hwf.1
  have hK16 := hwf.2.1
  obtain ⟨e, he, hfit, hbad⟩ := first_ex pg_codes n
  obtain ⟨nn, np, due, no, nf, nt, hal, -⟩ := along_eq hn he hfit hbad mo_newOne mo_newFrom mo_newTo
  unfold f_X5_fault f_X6_fault
  rw [first_eq hn he hfit hbad, hal]
  exact ⟨nI e, nn, np, due, no, nf, nt, rfl, rfl, hI0⟩
set_option maxHeartbeats 1000000 in
theorem sim_net {xx_netsRead xx_timesSent xx_passagesSent xx_astraySent xx_loopsSent : Int32} {pg_codes : Nat → Int32} {pg_length gr_nodes gr_links : Int32} {gr_start gr_end gr_wayLength gr_wayNext gr_wayLinks : Nat → Int32} {mk_width mk_drawn mk_seed : Int32} {mk_bits : Nat → Int64} {bn_links : Nat → Int32} {mo_pageLength : Int32} {mo_page : Nat → Int32} {mo_nodes mo_links : Int32} {mo_fromOf mo_toOf : Nat → Int32} {mo_width mo_drawn mo_seed : Int32} {mo_bundleOf : Nat → Int32} {mo_netsRead mo_sent mo_passagesEver mo_astrayEver mo_loopsEver : Int32} {mo_marks : Nat → Int64} {gr_linkBetween : Nat → Int32} {mk_nextSeed : Int64} {mo_newOne : Int32} {mo_newFrom mo_newTo : Nat → Int32} {mo_drawing : Int64} (hI : Inv xx_netsRead xx_timesSent xx_passagesSent xx_astraySent xx_loopsSent pg_codes pg_length gr_nodes gr_links gr_start gr_end gr_wayLength gr_wayNext gr_wayLinks mk_width mk_drawn mk_seed mk_bits bn_links mo_pageLength mo_page mo_nodes mo_links mo_fromOf mo_toOf mo_width mo_drawn mo_seed mo_bundleOf mo_netsRead mo_sent mo_passagesEver mo_astrayEver mo_loopsEver mo_marks)   : ∃ (r : Int32) (n_xx_netsRead : Int32) (n_pg_length : Int32) (n_gr_nodes : Int32) (n_gr_links : Int32) (n_gr_start : Nat → Int32) (n_gr_end : Nat → Int32) (n_gr_linkBetween : Nat → Int32) (n_gr_wayLength : Nat → Int32) (n_gr_wayNext : Nat → Int32) (n_gr_wayLinks : Nat → Int32) (n_mk_nextSeed : Int64) (n_mk_bits : Nat → Int64) (n_bn_links : Nat → Int32) (n_mo_pageLength : Int32) (n_mo_nodes : Int32) (n_mo_links : Int32) (n_mo_fromOf : Nat → Int32) (n_mo_toOf : Nat → Int32) (n_mo_bundleOf : Nat → Int32) (n_mo_netsRead : Int32) (n_mo_newNodes : Int32) (n_mo_newPairs : Int32) (n_mo_due : Int32) (n_mo_newOne : Int32) (n_mo_newFrom : Nat → Int32) (n_mo_newTo : Nat → Int32) (n_mo_marks : Nat → Int64) (n_mo_drawing : Int64), f_X5_net xx_netsRead pg_codes pg_length gr_nodes gr_links gr_start gr_end gr_linkBetween gr_wayLength gr_wayNext gr_wayLinks mk_width mk_drawn mk_seed mk_nextSeed mk_bits bn_links = some (r, n_xx_netsRead, n_pg_length, n_gr_nodes, n_gr_links, n_gr_start, n_gr_end, n_gr_linkBetween, n_gr_wayLength, n_gr_wayNext, n_gr_wayLinks, n_mk_nextSeed, n_mk_bits, n_bn_links) ∧ f_X6_net mo_pageLength mo_page mo_nodes mo_links mo_fromOf mo_toOf mo_width mo_drawn mo_seed mo_bundleOf mo_netsRead mo_newOne mo_newFrom mo_newTo mo_marks mo_drawing = some (r, n_mo_pageLength, n_mo_nodes, n_mo_links, n_mo_fromOf, n_mo_toOf, n_mo_bundleOf, n_mo_netsRead, n_mo_newNodes, n_mo_newPairs, n_mo_due, n_mo_newOne, n_mo_newFrom, n_mo_newTo, n_mo_marks, n_mo_drawing) ∧ Inv n_xx_netsRead xx_timesSent xx_passagesSent xx_astraySent xx_loopsSent pg_codes n_pg_length n_gr_nodes n_gr_links n_gr_start n_gr_end n_gr_wayLength n_gr_wayNext n_gr_wayLinks mk_width mk_drawn mk_seed n_mk_bits n_bn_links n_mo_pageLength mo_page n_mo_nodes n_mo_links n_mo_fromOf n_mo_toOf mo_width mo_drawn mo_seed n_mo_bundleOf n_mo_netsRead mo_sent mo_passagesEver mo_astrayEver mo_loopsEver n_mo_marks := by
  have hI0 := hI
  obtain ⟨⟨e1, e2, e3, e4, e5⟩, ⟨p1, p2, p3, p4, p5, p6, p7, p8, p9, p10⟩, n, N, K, fr, to, W, Dn, S, ⟨hn, hlen⟩, ⟨hg1, hg2, hwf, hse, hways⟩, ⟨hw1, hw2, hd1, hd2, hS, hm1, hm2, hm3, hmk⟩, hB⟩ := hI
  subst e1 e2 e3 e4 e5 p1 p2 p3 p4 p5 p6 p7 p8 p9 p10 hlen hg1 hg2 hm1 hm2 hm3
  have hN6 := hwf.1
  have hK16 := hwf.2.1
  obtain ⟨e, he, hfit, hbad⟩ := first_ex pg_codes n
  obtain ⟨nn, np, due, no, nf, nt, hal, hst⟩ := along_eq hn he hfit hbad mo_newOne mo_newFrom mo_newTo
  unfold f_X5_net f_X6_net
  rw [hal]
  by_cases hw : e = n ∧ 4 ≤ n ∧ n % 3 = 1
  · obtain ⟨hen, h4, h3⟩ := hw
    subst hen
    rw [whole_yes hn hfit h4 h3]
    obtain ⟨N', a, b, hnet⟩ := net_num (c := pg_codes) (m := (e - 1) / 3) (by omega) (fun j hj => hfit j (by omega))
    obtain ⟨lb', wl', wn', wk', hr, hways'⟩ := read_ok hnet (n := e) (by omega) gr_start gr_end gr_linkBetween gr_wayLength gr_wayNext gr_wayLinks
    obtain ⟨g1, g2, g3, -, hpp⟩ := (hst rfl).2 (by omega)
    rw [hnet.2.2.2.1] at g1
    rw [show (e - 1) % 3 = 0 by omega, nI_0] at g3
    subst g1 g2 g3
    have hm1 : 1 ≤ (e - 1) / 3 := by omega
    have hm8 : (e - 1) / 3 ≤ 8 := by omega
    generalize (e - 1) / 3 = m at *
    have q1 := draw_all (W := W) (Dn := Dn) (K := 2 * m) (S := S) hS (by omega) hw2 hd1 hd2 (by omega) mk_bits
    have q2 := lay_all (W := W) (Dn := Dn) (K := 2 * m) (S := S) hS (by omega) hw2 hd1 hd2 (by omega) mo_marks
    have e2 : (2 : Int32) * nI m = nI (2 * m) := by rw [show (2 : Int32) = nI 2 from rfl, pk_mul]
    simp only [Option.bind_some]
    rw [if_neg ne10, if_neg (nI_nlt (Nat.le_refl e) (by omega)), if_neg (nI_ne0 (by omega) (by omega)), hr, net49 hnet hpp, e2]
    simp only [if_true]
    simp only [Option.bind_some]
    rw [clear_eq, net125]
    simp only [Option.bind_some]
    unfold f_X2_linkCount
    rw [q1, q2]
    refine ⟨_, _, _, _, _, _, _, _, _, _, _, _, _, _, _, _, _, _, _, _, _, _, _, _, _, _, _, _, _, rfl, rfl, ⟨rfl, rfl, rfl, rfl, rfl⟩, ⟨rfl, rfl, rfl, rfl, rfl, rfl, rfl, rfl, rfl, rfl⟩, 0, N', 2 * m, frx a b, tox a b, W, Dn, S, ⟨by omega, rfl⟩, ⟨rfl, rfl, net_wf hnet, se_val hnet gr_start gr_end m (Nat.le_refl m), hways'⟩, mk_new hS (by omega) hw2 hd1 hd2 (by omega) mk_bits mo_marks hw1, fun p hp => ⟨0, Nat.two_pow_pos _, ?_⟩⟩
    rcases (show p = 0 ∨ p = 1 ∨ p = 2 ∨ p = 3 by omega) with rfl | rfl | rfl | rfl <;> rfl
  · rw [whole_no hn he hfit hbad hw]
    refine ⟨-1003, xx_netsRead, nI n, nI N, nI K, gr_start, gr_end, gr_linkBetween, gr_wayLength, gr_wayNext, gr_wayLinks, mk_nextSeed, mk_bits, bn_links, nI n, nI N, nI K, gr_start, gr_end, bn_links, xx_netsRead, nn, np, due, no, nf, nt, mo_marks, mo_drawing, rfl, ?_, hI0⟩
    simp only [Option.bind_some]
    by_cases c1 : e < n
    · rw [if_pos (nI_lt c1 (by omega))]
    · have hen : e = n := by omega
      subst hen
      obtain ⟨s0, s1⟩ := hst rfl
      rw [if_neg (nI_nlt (Nat.le_refl e) (by omega))]
      by_cases c2 : e = 0
      · rw [if_pos (s0 c2).2.1]
      · obtain ⟨-, g2, g3, -, -⟩ := s1 c2
        by_cases c3 : e < 4
        · rw [if_pos (by rw [g2, show (e - 1) / 3 = 0 by omega]; rfl)]
        · rw [if_neg (by rw [g2]; exact nI_ne0 (by omega) (by omega)), if_neg (by rw [g3]; exact nI_ne0 (by omega) (by omega))]
set_option maxHeartbeats 1000000 in
theorem sim_set {xx_netsRead xx_timesSent xx_passagesSent xx_astraySent xx_loopsSent : Int32} {pg_codes : Nat → Int32} {pg_length gr_nodes gr_links : Int32} {gr_start gr_end gr_wayLength gr_wayNext gr_wayLinks : Nat → Int32} {mk_width mk_drawn mk_seed : Int32} {mk_bits : Nat → Int64} {bn_links : Nat → Int32} {mo_pageLength : Int32} {mo_page : Nat → Int32} {mo_nodes mo_links : Int32} {mo_fromOf mo_toOf : Nat → Int32} {mo_width mo_drawn mo_seed : Int32} {mo_bundleOf : Nat → Int32} {mo_netsRead mo_sent mo_passagesEver mo_astrayEver mo_loopsEver : Int32} {mo_marks : Nat → Int64} {mk_nextSeed mo_drawing : Int64} (hI : Inv xx_netsRead xx_timesSent xx_passagesSent xx_astraySent xx_loopsSent pg_codes pg_length gr_nodes gr_links gr_start gr_end gr_wayLength gr_wayNext gr_wayLinks mk_width mk_drawn mk_seed mk_bits bn_links mo_pageLength mo_page mo_nodes mo_links mo_fromOf mo_toOf mo_width mo_drawn mo_seed mo_bundleOf mo_netsRead mo_sent mo_passagesEver mo_astrayEver mo_loopsEver mo_marks) (x1 x2 : Int32)  : ∃ (r : Int32) (n_mk_width : Int32) (n_mk_drawn : Int32) (n_mk_seed : Int32) (n_mk_nextSeed : Int64) (n_mk_bits : Nat → Int64) (n_mo_width : Int32) (n_mo_drawn : Int32) (n_mo_seed : Int32) (n_mo_marks : Nat → Int64) (n_mo_drawing : Int64), f_X5_set gr_links mk_width mk_drawn mk_seed mk_nextSeed mk_bits x1 x2 = some (r, n_mk_width, n_mk_drawn, n_mk_seed, n_mk_nextSeed, n_mk_bits) ∧ f_X6_set mo_links mo_width mo_drawn mo_seed mo_marks mo_drawing x1 x2 = some (r, n_mo_width, n_mo_drawn, n_mo_seed, n_mo_marks, n_mo_drawing) ∧ Inv xx_netsRead xx_timesSent xx_passagesSent xx_astraySent xx_loopsSent pg_codes pg_length gr_nodes gr_links gr_start gr_end gr_wayLength gr_wayNext gr_wayLinks n_mk_width n_mk_drawn n_mk_seed n_mk_bits bn_links mo_pageLength mo_page mo_nodes mo_links mo_fromOf mo_toOf n_mo_width n_mo_drawn n_mo_seed mo_bundleOf mo_netsRead mo_sent mo_passagesEver mo_astrayEver mo_loopsEver n_mo_marks := by
  have hI0 := hI
  obtain ⟨⟨e1, e2, e3, e4, e5⟩, ⟨p1, p2, p3, p4, p5, p6, p7, p8, p9, p10⟩, n, N, K, fr, to, W, Dn, S, ⟨hn, hlen⟩, ⟨hg1, hg2, hwf, hse, hways⟩, ⟨hw1, hw2, hd1, hd2, hS, hm1, hm2, hm3, hmk⟩, hB⟩ := hI
  subst e1 e2 e3 e4 e5 p1 p2 p3 p4 p5 p6 p7 p8 p9 p10 hlen hg1 hg2 hm1 hm2 hm3
  have hN6 := hwf.1
  have hK16 := hwf.2.1
  have key : ∀ W' Dn' S' : Nat, 8 ≤ W' → W' ≤ 40 → 1 ≤ Dn' → Dn' ≤ 4 → S' < 2147483648 → f_X3_drawAll (nI W') (nI Dn') (nI S') mk_bits (nI K) = some (lN (sdq W' Dn' K S' 60), fillC W' Dn' K S' mk_bits 60) ∧ f_X6_layMarks (nI K) (nI W') (nI Dn') (nI S') mo_marks = some (fillM W' Dn' K S' mo_marks 60, lN (sdq W' Dn' K S' 60)) ∧ Inv xx_netsRead xx_timesSent xx_passagesSent xx_astraySent xx_loopsSent pg_codes (nI n) (nI N) (nI K) gr_start gr_end gr_wayLength gr_wayNext gr_wayLinks (nI W') (nI Dn') (nI S') (fillC W' Dn' K S' mk_bits 60) bn_links (nI n) pg_codes (nI N) (nI K) gr_start gr_end (nI W') (nI Dn') (nI S') bn_links xx_netsRead xx_timesSent xx_passagesSent xx_astraySent xx_loopsSent (fillM W' Dn' K S' mo_marks 60) := by
    intro W' Dn' S' h1 h2 h3 h4 h5
    exact ⟨draw_all h5 (by omega) h2 h3 h4 hK16 mk_bits, lay_all h5 (by omega) h2 h3 h4 hK16 mo_marks, ⟨rfl, rfl, rfl, rfl, rfl⟩, ⟨rfl, rfl, rfl, rfl, rfl, rfl, rfl, rfl, rfl, rfl⟩, n, N, K, fr, to, W', Dn', S', ⟨hn, rfl⟩, ⟨rfl, rfl, hwf, hse, hways⟩, mk_new h5 (by omega) h2 h3 h4 hK16 mk_bits mo_marks h1, hB⟩
  unfold f_X5_set f_X6_set f_X3_allows f_X3_setting f_X3_change f_X2_linkCount
  by_cases c0 : x1 = 0
  · subst c0
    by_cases h1 : x2 < 8
    · exact ⟨-1002, nI W, nI Dn, nI S, mk_nextSeed, mk_bits, nI W, nI Dn, nI S, mo_marks, mo_drawing, by simp [h1], by simp [wi_0 (Or.inl h1)], hI0⟩
    · by_cases h2 : (40 : Int32) < x2
      · exact ⟨-1002, nI W, nI Dn, nI S, mk_nextSeed, mk_bits, nI W, nI Dn, nI S, mo_marks, mo_drawing, by simp [h1, h2], by simp [wi_0 (Or.inr h2)], hI0⟩
      · obtain ⟨W', hW', rfl⟩ : ∃ w : Nat, (8 ≤ w ∧ w ≤ 40) ∧ x2 = nI w := by
          obtain ⟨j, hj, e⟩ := nI_of (x := x2) (fun h => h1 (by rw [fa_lt] at h ⊢; have : (0 : Int32).toInt = 0 := rfl; have : (8 : Int32).toInt = 8 := rfl; omega))
          refine ⟨j, ?_, e⟩
          subst e
          rw [fa_lt, nI_toInt hj] at h1 h2
          have e8 : (8 : Int32).toInt = 8 := rfl
          have e40 : (40 : Int32).toInt = 40 := rfl
          omega
        obtain ⟨k1, k2, k3⟩ := key W' Dn S hW'.1 hW'.2 hd1 hd2 hS
        refine ⟨nI W, nI W', nI Dn, nI S, lN (sdq W' Dn K S 60), fillC W' Dn K S mk_bits 60, nI W', nI Dn, nI S, fillM W' Dn K S mo_marks 60, lN (sdq W' Dn K S 60), ?_, ?_, k3⟩
        · simp only [if_true, if_neg h1, if_neg h2, if_neg ne10, k1, Option.bind_some]
        · simp only [if_true, wi_1 h1 h2, if_neg ne10, Option.bind_some, show ¬ (0 : Int32) = 1 from by decide, show ¬ (0 : Int32) = 2 from by decide, if_false, k2]
  by_cases c1 : x1 = 1
  · subst c1
    by_cases h1 : x2 < 1
    · exact ⟨-1002, nI W, nI Dn, nI S, mk_nextSeed, mk_bits, nI W, nI Dn, nI S, mo_marks, mo_drawing, by simp [h1], by simp [wi_0 (Or.inl h1)], hI0⟩
    · by_cases h2 : (4 : Int32) < x2
      · exact ⟨-1002, nI W, nI Dn, nI S, mk_nextSeed, mk_bits, nI W, nI Dn, nI S, mo_marks, mo_drawing, by simp [h1, h2], by simp [wi_0 (Or.inr h2)], hI0⟩
      · obtain ⟨D', hD', rfl⟩ : ∃ w : Nat, (1 ≤ w ∧ w ≤ 4) ∧ x2 = nI w := by
          obtain ⟨j, hj, e⟩ := nI_of (x := x2) (fun h => h1 (by rw [fa_lt] at h ⊢; have : (0 : Int32).toInt = 0 := rfl; have : (1 : Int32).toInt = 1 := rfl; omega))
          refine ⟨j, ?_, e⟩
          subst e
          rw [fa_lt, nI_toInt hj] at h1 h2
          have e8 : (1 : Int32).toInt = 1 := rfl
          have e40 : (4 : Int32).toInt = 4 := rfl
          omega
        obtain ⟨k1, k2, k3⟩ := key W D' S hw1 hw2 hD'.1 hD'.2 hS
        refine ⟨nI Dn, nI W, nI D', nI S, lN (sdq W D' K S 60), fillC W D' K S mk_bits 60, nI W, nI D', nI S, fillM W D' K S mo_marks 60, lN (sdq W D' K S 60), ?_, ?_, k3⟩
        · simp only [if_neg c0, if_true, if_neg h1, if_neg h2, if_neg ne10, k1, Option.bind_some]
        · simp only [if_neg c0, if_true, wi_1 h1 h2, if_neg ne10, Option.bind_some, show ¬ (1 : Int32) = 2 from by decide, if_false, k2]
  by_cases c2 : x1 = 2
  · subst c2
    by_cases h1 : x2 < 0
    · exact ⟨-1002, nI W, nI Dn, nI S, mk_nextSeed, mk_bits, nI W, nI Dn, nI S, mo_marks, mo_drawing, by simp [h1], by simp [h1], hI0⟩
    · obtain ⟨S', hS', rfl⟩ := nI_of h1
      obtain ⟨k1, k2, k3⟩ := key W Dn S' hw1 hw2 hd1 hd2 hS'
      refine ⟨nI S, nI W, nI Dn, nI S', lN (sdq W Dn K S' 60), fillC W Dn K S' mk_bits 60, nI W, nI Dn, nI S', fillM W Dn K S' mo_marks 60, lN (sdq W Dn K S' 60), ?_, ?_, k3⟩
      · simp only [if_neg c0, if_neg c1, if_true, if_neg h1, if_neg ne10, k1, Option.bind_some]
      · simp only [if_neg c0, if_neg c1, if_true, if_neg h1, if_neg ne10, Option.bind_some, k2]
  exact ⟨-1002, nI W, nI Dn, nI S, mk_nextSeed, mk_bits, nI W, nI Dn, nI S, mo_marks, mo_drawing, by simp [c0, c1, c2], by simp [c0, c1, c2], hI0⟩
set_option maxHeartbeats 1000000 in
theorem sim_mark {xx_netsRead xx_timesSent xx_passagesSent xx_astraySent xx_loopsSent : Int32} {pg_codes : Nat → Int32} {pg_length gr_nodes gr_links : Int32} {gr_start gr_end gr_wayLength gr_wayNext gr_wayLinks : Nat → Int32} {mk_width mk_drawn mk_seed : Int32} {mk_bits : Nat → Int64} {bn_links : Nat → Int32} {mo_pageLength : Int32} {mo_page : Nat → Int32} {mo_nodes mo_links : Int32} {mo_fromOf mo_toOf : Nat → Int32} {mo_width mo_drawn mo_seed : Int32} {mo_bundleOf : Nat → Int32} {mo_netsRead mo_sent mo_passagesEver mo_astrayEver mo_loopsEver : Int32} {mo_marks : Nat → Int64} (hI : Inv xx_netsRead xx_timesSent xx_passagesSent xx_astraySent xx_loopsSent pg_codes pg_length gr_nodes gr_links gr_start gr_end gr_wayLength gr_wayNext gr_wayLinks mk_width mk_drawn mk_seed mk_bits bn_links mo_pageLength mo_page mo_nodes mo_links mo_fromOf mo_toOf mo_width mo_drawn mo_seed mo_bundleOf mo_netsRead mo_sent mo_passagesEver mo_astrayEver mo_loopsEver mo_marks) (x1 x2 : Int32)  : ∃ (r : Int64), f_X5_mark gr_links mk_bits x1 x2 = some r ∧ f_X6_mark mo_links mo_marks x1 x2 = some r ∧ Inv xx_netsRead xx_timesSent xx_passagesSent xx_astraySent xx_loopsSent pg_codes pg_length gr_nodes gr_links gr_start gr_end gr_wayLength gr_wayNext gr_wayLinks mk_width mk_drawn mk_seed mk_bits bn_links mo_pageLength mo_page mo_nodes mo_links mo_fromOf mo_toOf mo_width mo_drawn mo_seed mo_bundleOf mo_netsRead mo_sent mo_passagesEver mo_astrayEver mo_loopsEver mo_marks := by
  have hI0 := hI
  obtain ⟨⟨e1, e2, e3, e4, e5⟩, ⟨p1, p2, p3, p4, p5, p6, p7, p8, p9, p10⟩, n, N, K, fr, to, W, Dn, S, ⟨hn, hlen⟩, ⟨hg1, hg2, hwf, hse, hways⟩, ⟨hw1, hw2, hd1, hd2, hS, hm1, hm2, hm3, hmk⟩, hB⟩ := hI
  subst e1 e2 e3 e4 e5 p1 p2 p3 p4 p5 p6 p7 p8 p9 p10 hlen hg1 hg2 hm1 hm2 hm3
  have hN6 := hwf.1
  have hK16 := hwf.2.1
  unfold f_X5_mark f_X6_mark
  rcases ix_cases x1 (n := K) (by omega) with h | ⟨k, hk, rfl⟩
  · exact ⟨-1001, if_pos (hl_out h), if_pos (ml_out (by omega) h), hI0⟩
  · rw [hl_in hk (by omega), if_neg ne10, ml_in hk (by omega), if_neg ne10]
    rcases ix_cases x2 (n := 3) (by omega) with h | ⟨v, hv, rfl⟩
    · exact ⟨-1002, if_pos (va_out h), if_pos (mva_out h), hI0⟩
    · rw [va_in hv, if_neg ne10, mva_in hv, if_neg ne10, of_link hv (by omega), bi_at, if_neg (ix_ok (by omega) (by omega)), cl_nI (by omega), (hmk v k hv (Or.inl hk)).1]
      exact ⟨_, rfl, rfl, hI0⟩
set_option maxHeartbeats 1000000 in
theorem sim_link {xx_netsRead xx_timesSent xx_passagesSent xx_astraySent xx_loopsSent : Int32} {pg_codes : Nat → Int32} {pg_length gr_nodes gr_links : Int32} {gr_start gr_end gr_wayLength gr_wayNext gr_wayLinks : Nat → Int32} {mk_width mk_drawn mk_seed : Int32} {mk_bits : Nat → Int64} {bn_links : Nat → Int32} {mo_pageLength : Int32} {mo_page : Nat → Int32} {mo_nodes mo_links : Int32} {mo_fromOf mo_toOf : Nat → Int32} {mo_width mo_drawn mo_seed : Int32} {mo_bundleOf : Nat → Int32} {mo_netsRead mo_sent mo_passagesEver mo_astrayEver mo_loopsEver : Int32} {mo_marks : Nat → Int64} (hI : Inv xx_netsRead xx_timesSent xx_passagesSent xx_astraySent xx_loopsSent pg_codes pg_length gr_nodes gr_links gr_start gr_end gr_wayLength gr_wayNext gr_wayLinks mk_width mk_drawn mk_seed mk_bits bn_links mo_pageLength mo_page mo_nodes mo_links mo_fromOf mo_toOf mo_width mo_drawn mo_seed mo_bundleOf mo_netsRead mo_sent mo_passagesEver mo_astrayEver mo_loopsEver mo_marks) (x1 x2 : Int32)  : ∃ (r : Int32), f_X5_link gr_links gr_start gr_end bn_links x1 x2 = some r ∧ f_X6_link mo_links mo_fromOf mo_toOf mo_bundleOf x1 x2 = some r ∧ Inv xx_netsRead xx_timesSent xx_passagesSent xx_astraySent xx_loopsSent pg_codes pg_length gr_nodes gr_links gr_start gr_end gr_wayLength gr_wayNext gr_wayLinks mk_width mk_drawn mk_seed mk_bits bn_links mo_pageLength mo_page mo_nodes mo_links mo_fromOf mo_toOf mo_width mo_drawn mo_seed mo_bundleOf mo_netsRead mo_sent mo_passagesEver mo_astrayEver mo_loopsEver mo_marks := by
  have hI0 := hI
  obtain ⟨⟨e1, e2, e3, e4, e5⟩, ⟨p1, p2, p3, p4, p5, p6, p7, p8, p9, p10⟩, n, N, K, fr, to, W, Dn, S, ⟨hn, hlen⟩, ⟨hg1, hg2, hwf, hse, hways⟩, ⟨hw1, hw2, hd1, hd2, hS, hm1, hm2, hm3, hmk⟩, hB⟩ := hI
  subst e1 e2 e3 e4 e5 p1 p2 p3 p4 p5 p6 p7 p8 p9 p10 hlen hg1 hg2 hm1 hm2 hm3
  have hN6 := hwf.1
  have hK16 := hwf.2.1
  unfold f_X5_link f_X6_link
  rcases ix_cases x1 (n := K) (by omega) with h | ⟨k, hk, rfl⟩
  · exact ⟨-1001, if_pos (hl_out h), if_pos (ml_out (by omega) h), hI0⟩
  · rw [hl_in hk (by omega), if_neg ne10, ml_in hk (by omega), if_neg ne10, start_of (by omega), end_of (by omega), places_eq]
    rcases ix_cases x2 (n := 3) (by omega) with h | ⟨v, hv, rfl⟩
    · refine ⟨-1002, ?_, if_pos (wi_out (n := 3) (by omega) h), hI0⟩
      have hne : ∀ j, j < 3 → ¬ x2 = nI j := fun j hj e => by
        subst e
        rcases h with h | h
        · exact nI_pos (by omega) h
        · exact nI_ge hj (by omega) h
      rw [if_neg (show ¬ x2 = 0 from hne 0 (by omega)), if_neg (show ¬ x2 = 1 from hne 1 (by omega)), if_neg (show ¬ x2 = 2 from hne 2 (by omega))]
    · have e1 : f_X6_within (nI v) 0 2 = 1 := wi_in (n := 3) hv (by omega)
      rw [e1, if_neg ne10, link_now (by omega) v hv]
      rcases (show v = 0 ∨ v = 1 ∨ v = 2 by omega) with rfl | rfl | rfl
      · exact ⟨_, rfl, rfl, hI0⟩
      · exact ⟨_, rfl, rfl, hI0⟩
      · exact ⟨_, rfl, rfl, hI0⟩
set_option maxHeartbeats 1000000 in
theorem sim_way {xx_netsRead xx_timesSent xx_passagesSent xx_astraySent xx_loopsSent : Int32} {pg_codes : Nat → Int32} {pg_length gr_nodes gr_links : Int32} {gr_start gr_end gr_wayLength gr_wayNext gr_wayLinks : Nat → Int32} {mk_width mk_drawn mk_seed : Int32} {mk_bits : Nat → Int64} {bn_links : Nat → Int32} {mo_pageLength : Int32} {mo_page : Nat → Int32} {mo_nodes mo_links : Int32} {mo_fromOf mo_toOf : Nat → Int32} {mo_width mo_drawn mo_seed : Int32} {mo_bundleOf : Nat → Int32} {mo_netsRead mo_sent mo_passagesEver mo_astrayEver mo_loopsEver : Int32} {mo_marks : Nat → Int64} {mo_leftOf : Nat → Int32} {mo_wayMany : Int32} {mo_wayAt : Nat → Int32} (hI : Inv xx_netsRead xx_timesSent xx_passagesSent xx_astraySent xx_loopsSent pg_codes pg_length gr_nodes gr_links gr_start gr_end gr_wayLength gr_wayNext gr_wayLinks mk_width mk_drawn mk_seed mk_bits bn_links mo_pageLength mo_page mo_nodes mo_links mo_fromOf mo_toOf mo_width mo_drawn mo_seed mo_bundleOf mo_netsRead mo_sent mo_passagesEver mo_astrayEver mo_loopsEver mo_marks) (x1 x2 x3 : Int32)  : ∃ (r : Int32) (n_mo_leftOf : Nat → Int32) (n_mo_wayMany : Int32) (n_mo_wayAt : Nat → Int32), f_X5_way gr_nodes gr_wayLength gr_wayNext x1 x2 x3 = some r ∧ f_X6_way mo_nodes mo_links mo_fromOf mo_toOf mo_leftOf mo_wayMany mo_wayAt x1 x2 x3 = some (r, n_mo_leftOf, n_mo_wayMany, n_mo_wayAt) ∧ Inv xx_netsRead xx_timesSent xx_passagesSent xx_astraySent xx_loopsSent pg_codes pg_length gr_nodes gr_links gr_start gr_end gr_wayLength gr_wayNext gr_wayLinks mk_width mk_drawn mk_seed mk_bits bn_links mo_pageLength mo_page mo_nodes mo_links mo_fromOf mo_toOf mo_width mo_drawn mo_seed mo_bundleOf mo_netsRead mo_sent mo_passagesEver mo_astrayEver mo_loopsEver mo_marks := by
  have hI0 := hI
  obtain ⟨⟨e1, e2, e3, e4, e5⟩, ⟨p1, p2, p3, p4, p5, p6, p7, p8, p9, p10⟩, n, N, K, fr, to, W, Dn, S, ⟨hn, hlen⟩, ⟨hg1, hg2, hwf, hse, hways⟩, ⟨hw1, hw2, hd1, hd2, hS, hm1, hm2, hm3, hmk⟩, hB⟩ := hI
  subst e1 e2 e3 e4 e5 p1 p2 p3 p4 p5 p6 p7 p8 p9 p10 hlen hg1 hg2 hm1 hm2 hm3
  have hN6 := hwf.1
  have hK16 := hwf.2.1
  unfold f_X5_way f_X6_way
  rcases ix_cases x1 (n := N) (by omega) with h | ⟨f, hf, rfl⟩
  · exact ⟨-1001, mo_leftOf, mo_wayMany, mo_wayAt, if_pos (hn_out h), if_pos (mn_out (by omega) h), hI0⟩
  rw [hn_in hf (by omega), if_neg ne10, mn_in hf (by omega), if_neg ne10]
  rcases ix_cases x2 (n := N) (by omega) with h | ⟨t, ht, rfl⟩
  · exact ⟨-1001, mo_leftOf, mo_wayMany, mo_wayAt, if_pos (hn_out h), if_pos (mn_out (by omega) h), hI0⟩
  rw [hn_in ht (by omega), if_neg ne10, mn_in ht (by omega), if_neg ne10]
  unfold f_X2_nodeOnWay
  rw [hn_in hf (by omega), if_neg ne10, hn_in ht (by omega), if_neg ne10, at_eq, if_neg (ix_ok (n := 36) (by omega) (by decide)), cl_nI (by omega)]
  obtain ⟨lf', wa', hcase⟩ := lay_way hwf hse hways hf ht mo_leftOf mo_wayAt
  rcases hcase with ⟨d, P, L, hd6, hP0, hP, hd, hlw, hwa⟩ | ⟨hno, hlw⟩
  · rw [hlw, (hways f t hf ht).1 d hd]
    simp only [Option.bind_some]
    rcases ix_cases x3 (n := d + 1) (by omega) with h | ⟨q, hq, rfl⟩
    · refine ⟨-1, lf', nI (d + 1), wa', ?_, if_pos (wi_out (by omega) h), hI0⟩
      by_cases h0 : x3 < 0
      · rw [if_pos h0]; rfl
      · rw [if_neg h0, if_neg]
        · rfl
        · intro q
          rcases h with h | h
          · exact h0 h
          · rw [fa_le, nI_toInt (by omega)] at h q
            omega
    · rw [wi_in hq (by omega), if_neg ne10, if_neg (ix_ok (n := 6) (by omega) (by decide)), cl_nI (by omega), hwa q (by omega), if_neg (nI_pos (by omega)), if_pos (nI_le (by omega) (by omega))]
      have h44 := node44 hN6 ht hP (q := q) (by omega) hd6
      rw [hP0] at h44
      rw [h44]
      exact ⟨nI (P q), lf', nI (d + 1), wa', rfl, rfl, hI0⟩
  · rw [hlw, ((hways f t hf ht).2.1 hno).1]
    simp only [Option.bind_some]
    refine ⟨-1, lf', 0, wa', ?_, if_pos (wi_0 ?_), hI0⟩
    · by_cases h0 : x3 < 0
      · rw [if_pos h0]; rfl
      · rw [if_neg h0, if_neg]
        · rfl
        · intro q
          rw [fa_le] at q
          rw [fa_lt] at h0
          have e1 : (-1 : Int32).toInt = -1 := rfl
          have e2 : (0 : Int32).toInt = 0 := rfl
          omega
    · rw [fa_lt, fa_lt]
      have e1 : ((0 : Int32) - 1).toInt = -1 := rfl
      have e2 : (0 : Int32).toInt = 0 := rfl
      omega
set_option maxHeartbeats 1000000 in
theorem sim_tree {xx_netsRead xx_timesSent xx_passagesSent xx_astraySent xx_loopsSent : Int32} {pg_codes : Nat → Int32} {pg_length gr_nodes gr_links : Int32} {gr_start gr_end gr_wayLength gr_wayNext gr_wayLinks : Nat → Int32} {mk_width mk_drawn mk_seed : Int32} {mk_bits : Nat → Int64} {bn_links : Nat → Int32} {mo_pageLength : Int32} {mo_page : Nat → Int32} {mo_nodes mo_links : Int32} {mo_fromOf mo_toOf : Nat → Int32} {mo_width mo_drawn mo_seed : Int32} {mo_bundleOf : Nat → Int32} {mo_netsRead mo_sent mo_passagesEver mo_astrayEver mo_loopsEver : Int32} {mo_marks : Nat → Int64} {mo_leftOf : Nat → Int32} {mo_wayMany : Int32} {mo_wayAt : Nat → Int32} (hI : Inv xx_netsRead xx_timesSent xx_passagesSent xx_astraySent xx_loopsSent pg_codes pg_length gr_nodes gr_links gr_start gr_end gr_wayLength gr_wayNext gr_wayLinks mk_width mk_drawn mk_seed mk_bits bn_links mo_pageLength mo_page mo_nodes mo_links mo_fromOf mo_toOf mo_width mo_drawn mo_seed mo_bundleOf mo_netsRead mo_sent mo_passagesEver mo_astrayEver mo_loopsEver mo_marks) (x1 x2 : Int32)  : ∃ (r : Int32) (n_mo_leftOf : Nat → Int32) (n_mo_wayMany : Int32) (n_mo_wayAt : Nat → Int32), f_X5_tree gr_nodes gr_wayLinks x1 x2 = some r ∧ f_X6_tree mo_nodes mo_links mo_fromOf mo_toOf mo_leftOf mo_wayMany mo_wayAt x1 x2 = some (r, n_mo_leftOf, n_mo_wayMany, n_mo_wayAt) ∧ Inv xx_netsRead xx_timesSent xx_passagesSent xx_astraySent xx_loopsSent pg_codes pg_length gr_nodes gr_links gr_start gr_end gr_wayLength gr_wayNext gr_wayLinks mk_width mk_drawn mk_seed mk_bits bn_links mo_pageLength mo_page mo_nodes mo_links mo_fromOf mo_toOf mo_width mo_drawn mo_seed mo_bundleOf mo_netsRead mo_sent mo_passagesEver mo_astrayEver mo_loopsEver mo_marks := by
  have hI0 := hI
  obtain ⟨⟨e1, e2, e3, e4, e5⟩, ⟨p1, p2, p3, p4, p5, p6, p7, p8, p9, p10⟩, n, N, K, fr, to, W, Dn, S, ⟨hn, hlen⟩, ⟨hg1, hg2, hwf, hse, hways⟩, ⟨hw1, hw2, hd1, hd2, hS, hm1, hm2, hm3, hmk⟩, hB⟩ := hI
  subst e1 e2 e3 e4 e5 p1 p2 p3 p4 p5 p6 p7 p8 p9 p10 hlen hg1 hg2 hm1 hm2 hm3
  have hN6 := hwf.1
  have hK16 := hwf.2.1
  unfold f_X5_tree f_X6_tree
  rcases ix_cases x1 (n := N) (by omega) with h | ⟨f, hf, rfl⟩
  · exact ⟨-1001, mo_leftOf, mo_wayMany, mo_wayAt, if_pos (hn_out h), if_pos (mn_out (by omega) h), hI0⟩
  rw [hn_in hf (by omega), if_neg ne10, mn_in hf (by omega), if_neg ne10]
  rcases set_cases hN6 x2 with ⟨s1, s2⟩ | ⟨s1, s2⟩
  · exact ⟨-1002, mo_leftOf, mo_wayMany, mo_wayAt, if_pos s1, if_pos s2, hI0⟩
  rw [s1, s2, if_neg ne10, if_neg ne10]
  obtain ⟨tm, htm, h1, lf', wm', wa', h2⟩ := tree_ok hwf hse hways hf x2 mo_leftOf mo_wayAt mo_wayMany
  rw [h1, h2]
  exact ⟨nI tm, lf', wm', wa', rfl, rfl, hI0⟩
set_option maxHeartbeats 1000000 in
theorem sim_bind {xx_netsRead xx_timesSent xx_passagesSent xx_astraySent xx_loopsSent : Int32} {pg_codes : Nat → Int32} {pg_length gr_nodes gr_links : Int32} {gr_start gr_end gr_wayLength gr_wayNext gr_wayLinks : Nat → Int32} {mk_width mk_drawn mk_seed : Int32} {mk_bits : Nat → Int64} {bn_links : Nat → Int32} {mo_pageLength : Int32} {mo_page : Nat → Int32} {mo_nodes mo_links : Int32} {mo_fromOf mo_toOf : Nat → Int32} {mo_width mo_drawn mo_seed : Int32} {mo_bundleOf : Nat → Int32} {mo_netsRead mo_sent mo_passagesEver mo_astrayEver mo_loopsEver : Int32} {mo_marks : Nat → Int64} {mo_leftOf : Nat → Int32} {mo_wayMany : Int32} {mo_wayAt : Nat → Int32} (hI : Inv xx_netsRead xx_timesSent xx_passagesSent xx_astraySent xx_loopsSent pg_codes pg_length gr_nodes gr_links gr_start gr_end gr_wayLength gr_wayNext gr_wayLinks mk_width mk_drawn mk_seed mk_bits bn_links mo_pageLength mo_page mo_nodes mo_links mo_fromOf mo_toOf mo_width mo_drawn mo_seed mo_bundleOf mo_netsRead mo_sent mo_passagesEver mo_astrayEver mo_loopsEver mo_marks) (x1 x2 x3 : Int32)  : ∃ (r : Int32) (n_bn_links : Nat → Int32) (n_mo_bundleOf : Nat → Int32) (n_mo_leftOf : Nat → Int32) (n_mo_wayMany : Int32) (n_mo_wayAt : Nat → Int32), f_X5_bind gr_nodes gr_wayLinks bn_links x1 x2 x3 = some (r, n_bn_links) ∧ f_X6_bind mo_nodes mo_links mo_fromOf mo_toOf mo_bundleOf mo_leftOf mo_wayMany mo_wayAt x1 x2 x3 = some (r, n_mo_bundleOf, n_mo_leftOf, n_mo_wayMany, n_mo_wayAt) ∧ Inv xx_netsRead xx_timesSent xx_passagesSent xx_astraySent xx_loopsSent pg_codes pg_length gr_nodes gr_links gr_start gr_end gr_wayLength gr_wayNext gr_wayLinks mk_width mk_drawn mk_seed mk_bits n_bn_links mo_pageLength mo_page mo_nodes mo_links mo_fromOf mo_toOf mo_width mo_drawn mo_seed n_mo_bundleOf mo_netsRead mo_sent mo_passagesEver mo_astrayEver mo_loopsEver mo_marks := by
  have hI0 := hI
  obtain ⟨⟨e1, e2, e3, e4, e5⟩, ⟨p1, p2, p3, p4, p5, p6, p7, p8, p9, p10⟩, n, N, K, fr, to, W, Dn, S, ⟨hn, hlen⟩, ⟨hg1, hg2, hwf, hse, hways⟩, ⟨hw1, hw2, hd1, hd2, hS, hm1, hm2, hm3, hmk⟩, hB⟩ := hI
  subst e1 e2 e3 e4 e5 p1 p2 p3 p4 p5 p6 p7 p8 p9 p10 hlen hg1 hg2 hm1 hm2 hm3
  have hN6 := hwf.1
  have hK16 := hwf.2.1
  unfold f_X5_bind f_X6_bind
  rcases ix_cases x1 (n := 4) (by omega) with h | ⟨p, hp, rfl⟩
  · exact ⟨-1001, bn_links, bn_links, mo_leftOf, mo_wayMany, mo_wayAt, if_pos (pl_out h), if_pos (mpl_out h), hI0⟩
  rw [pl_in hp, if_neg ne10, mpl_in hp, if_neg ne10]
  rcases ix_cases x2 (n := N) (by omega) with h | ⟨f, hf, rfl⟩
  · exact ⟨-1001, bn_links, bn_links, mo_leftOf, mo_wayMany, mo_wayAt, if_pos (hn_out h), if_pos (mn_out (by omega) h), hI0⟩
  rw [hn_in hf (by omega), if_neg ne10, mn_in hf (by omega), if_neg ne10]
  rcases set_cases hN6 x3 with ⟨s1, s2⟩ | ⟨s1, s2⟩
  · exact ⟨-1002, bn_links, bn_links, mo_leftOf, mo_wayMany, mo_wayAt, if_pos s1, if_pos s2, hI0⟩
  rw [s1, s2, if_neg ne10, if_neg ne10]
  obtain ⟨tm, htm, h1, lf', wm', wa', h2⟩ := tree_ok hwf hse hways hf x3 mo_leftOf mo_wayAt mo_wayMany
  have h16 : 2 ^ K ≤ 2 ^ 16 := Nat.pow_le_pow_right (by omega) hK16
  rw [h1, h2]
  simp only [Option.bind_some]
  by_cases c0 : nI tm = 0
  · exact ⟨-1003, bn_links, bn_links, lf', wm', wa', if_pos c0, if_pos c0, hI0⟩
  rw [if_neg c0, if_neg c0, is_there hp, if_neg (ix_ok hp (by decide)), cl_nI (by omega)]
  by_cases c1 : bn_links p = 0
  · have hl : (nI tm).toInt64 = lN tm := nI_l (by omega)
    have hct : fb_ct tm.testBit 40 = fb_ct tm.testBit 16 := by
      rw [show (40 : Nat) = 16 + 24 from rfl, fb_ct_split]
      have e : fb_ct (fun k => tm.testBit (16 + k)) 24 = 0 := fb_ct_zero.mpr (fun k _ => Nat.testBit_lt_two_pow (Nat.lt_of_lt_of_le htm (Nat.pow_le_pow_right (by omega) (by omega))))
      rw [e, Nat.add_zero]
    rw [put_at hp, hl, ones_eq (by omega), int_bits (by omega), hct]
    refine ⟨nI (fb_ct tm.testBit 16), upd bn_links p (nI tm), upd bn_links p (nI tm), lf', wm', wa', ?_, ?_, ⟨rfl, rfl, rfl, rfl, rfl⟩, ⟨rfl, rfl, rfl, rfl, rfl, rfl, rfl, rfl, rfl, rfl⟩, n, N, K, fr, to, W, Dn, S, ⟨hn, rfl⟩, ⟨rfl, rfl, hwf, hse, hways⟩, ⟨hw1, hw2, hd1, hd2, hS, rfl, rfl, rfl, hmk⟩, ?_⟩
    · simp only [if_pos c1, Option.bind_some, if_true]
    · simp only [if_pos c1, Option.bind_some]
    · intro q hq
      by_cases e : q = p
      · subst e; exact ⟨tm, htm, by rw [pk_us]⟩
      · rw [pk_un e]; exact hB q hq
  · refine ⟨-1004, bn_links, bn_links, lf', wm', wa', ?_, ?_, hI0⟩
    · simp only [if_neg c1, Option.bind_some, if_neg ne10]
    · rw [if_neg c1]
set_option maxHeartbeats 1000000 in
theorem sim_loosen {xx_netsRead xx_timesSent xx_passagesSent xx_astraySent xx_loopsSent : Int32} {pg_codes : Nat → Int32} {pg_length gr_nodes gr_links : Int32} {gr_start gr_end gr_wayLength gr_wayNext gr_wayLinks : Nat → Int32} {mk_width mk_drawn mk_seed : Int32} {mk_bits : Nat → Int64} {bn_links : Nat → Int32} {mo_pageLength : Int32} {mo_page : Nat → Int32} {mo_nodes mo_links : Int32} {mo_fromOf mo_toOf : Nat → Int32} {mo_width mo_drawn mo_seed : Int32} {mo_bundleOf : Nat → Int32} {mo_netsRead mo_sent mo_passagesEver mo_astrayEver mo_loopsEver : Int32} {mo_marks : Nat → Int64} (hI : Inv xx_netsRead xx_timesSent xx_passagesSent xx_astraySent xx_loopsSent pg_codes pg_length gr_nodes gr_links gr_start gr_end gr_wayLength gr_wayNext gr_wayLinks mk_width mk_drawn mk_seed mk_bits bn_links mo_pageLength mo_page mo_nodes mo_links mo_fromOf mo_toOf mo_width mo_drawn mo_seed mo_bundleOf mo_netsRead mo_sent mo_passagesEver mo_astrayEver mo_loopsEver mo_marks) (x1 : Int32)  : ∃ (r : Int32) (n_bn_links : Nat → Int32) (n_mo_bundleOf : Nat → Int32), f_X5_loosen bn_links x1 = some (r, n_bn_links) ∧ f_X6_loosen mo_bundleOf x1 = some (r, n_mo_bundleOf) ∧ Inv xx_netsRead xx_timesSent xx_passagesSent xx_astraySent xx_loopsSent pg_codes pg_length gr_nodes gr_links gr_start gr_end gr_wayLength gr_wayNext gr_wayLinks mk_width mk_drawn mk_seed mk_bits n_bn_links mo_pageLength mo_page mo_nodes mo_links mo_fromOf mo_toOf mo_width mo_drawn mo_seed n_mo_bundleOf mo_netsRead mo_sent mo_passagesEver mo_astrayEver mo_loopsEver mo_marks := by
  have hI0 := hI
  obtain ⟨⟨e1, e2, e3, e4, e5⟩, ⟨p1, p2, p3, p4, p5, p6, p7, p8, p9, p10⟩, n, N, K, fr, to, W, Dn, S, ⟨hn, hlen⟩, ⟨hg1, hg2, hwf, hse, hways⟩, ⟨hw1, hw2, hd1, hd2, hS, hm1, hm2, hm3, hmk⟩, hB⟩ := hI
  subst e1 e2 e3 e4 e5 p1 p2 p3 p4 p5 p6 p7 p8 p9 p10 hlen hg1 hg2 hm1 hm2 hm3
  have hN6 := hwf.1
  have hK16 := hwf.2.1
  unfold f_X5_loosen f_X6_loosen
  rcases ix_cases x1 (n := 4) (by omega) with h | ⟨p, hp, rfl⟩
  · exact ⟨-1001, _, _, if_pos (pl_out h), if_pos (mpl_out h), hI0⟩
  · rw [pl_in hp, if_neg ne10, mpl_in hp, if_neg ne10, if_neg (ix_ok hp (by omega)), cl_nI (by omega), is_there hp]
    by_cases h0 : bn_links p = 0
    · refine ⟨-1003, bn_links, bn_links, by simp [h0], by simp [h0], hI0⟩
    · simp only [if_neg h0, Option.bind_some, if_neg ne10]
      rw [links_at hp, put_at hp]
      refine ⟨_, _, _, rfl, rfl, ⟨rfl, rfl, rfl, rfl, rfl⟩, ⟨rfl, rfl, rfl, rfl, rfl, rfl, rfl, rfl, rfl, rfl⟩, n, N, K, fr, to, W, Dn, S, ⟨hn, rfl⟩, ⟨rfl, rfl, hwf, hse, hways⟩, ⟨hw1, hw2, hd1, hd2, hS, rfl, rfl, rfl, hmk⟩, ?_⟩
      intro q hq
      by_cases e : q = p
      · subst e; exact ⟨0, Nat.two_pow_pos K, by rw [pk_us]; rfl⟩
      · rw [pk_un e]; exact hB q hq
set_option maxHeartbeats 1000000 in
theorem sim_bound {xx_netsRead xx_timesSent xx_passagesSent xx_astraySent xx_loopsSent : Int32} {pg_codes : Nat → Int32} {pg_length gr_nodes gr_links : Int32} {gr_start gr_end gr_wayLength gr_wayNext gr_wayLinks : Nat → Int32} {mk_width mk_drawn mk_seed : Int32} {mk_bits : Nat → Int64} {bn_links : Nat → Int32} {mo_pageLength : Int32} {mo_page : Nat → Int32} {mo_nodes mo_links : Int32} {mo_fromOf mo_toOf : Nat → Int32} {mo_width mo_drawn mo_seed : Int32} {mo_bundleOf : Nat → Int32} {mo_netsRead mo_sent mo_passagesEver mo_astrayEver mo_loopsEver : Int32} {mo_marks : Nat → Int64} (hI : Inv xx_netsRead xx_timesSent xx_passagesSent xx_astraySent xx_loopsSent pg_codes pg_length gr_nodes gr_links gr_start gr_end gr_wayLength gr_wayNext gr_wayLinks mk_width mk_drawn mk_seed mk_bits bn_links mo_pageLength mo_page mo_nodes mo_links mo_fromOf mo_toOf mo_width mo_drawn mo_seed mo_bundleOf mo_netsRead mo_sent mo_passagesEver mo_astrayEver mo_loopsEver mo_marks) (x1 x2 : Int32)  : ∃ (r : Int64), f_X5_bound mk_bits bn_links x1 x2 = some r ∧ f_X6_bound mo_bundleOf mo_marks x1 x2 = some r ∧ Inv xx_netsRead xx_timesSent xx_passagesSent xx_astraySent xx_loopsSent pg_codes pg_length gr_nodes gr_links gr_start gr_end gr_wayLength gr_wayNext gr_wayLinks mk_width mk_drawn mk_seed mk_bits bn_links mo_pageLength mo_page mo_nodes mo_links mo_fromOf mo_toOf mo_width mo_drawn mo_seed mo_bundleOf mo_netsRead mo_sent mo_passagesEver mo_astrayEver mo_loopsEver mo_marks := by
  have hI0 := hI
  obtain ⟨⟨e1, e2, e3, e4, e5⟩, ⟨p1, p2, p3, p4, p5, p6, p7, p8, p9, p10⟩, n, N, K, fr, to, W, Dn, S, ⟨hn, hlen⟩, ⟨hg1, hg2, hwf, hse, hways⟩, ⟨hw1, hw2, hd1, hd2, hS, hm1, hm2, hm3, hmk⟩, hB⟩ := hI
  subst e1 e2 e3 e4 e5 p1 p2 p3 p4 p5 p6 p7 p8 p9 p10 hlen hg1 hg2 hm1 hm2 hm3
  have hN6 := hwf.1
  have hK16 := hwf.2.1
  unfold f_X5_bound f_X6_bound
  rcases ix_cases x1 (n := 4) (by omega) with h | ⟨p, hp, rfl⟩
  · exact ⟨-1001, if_pos (pl_out h), if_pos (mpl_out h), hI0⟩
  · rw [pl_in hp, if_neg ne10, mpl_in hp, if_neg ne10, if_neg (ix_ok hp (by omega)), cl_nI (by omega), is_there hp]
    by_cases h0 : bn_links p = 0
    · exact ⟨-1001, by simp [h0], by simp [h0], hI0⟩
    · simp only [if_neg h0, Option.bind_some, if_neg ne10]
      rcases ix_cases x2 (n := 3) (by omega) with h | ⟨v, hv, rfl⟩
      · exact ⟨-1002, if_pos (va_out h), if_pos (mva_out h), hI0⟩
      · rw [va_in hv, if_neg ne10, mva_in hv, if_neg ne10, of_bund hv hp, bb_at, if_neg (ix_ok (by omega) (by omega)), cl_nI (by omega), (hmk v (16 + p) hv (Or.inr ⟨by omega, by omega⟩)).1]
        exact ⟨_, rfl, rfl, hI0⟩
set_option maxHeartbeats 1000000 in
theorem sim_fold {xx_netsRead xx_timesSent xx_passagesSent xx_astraySent xx_loopsSent : Int32} {pg_codes : Nat → Int32} {pg_length gr_nodes gr_links : Int32} {gr_start gr_end gr_wayLength gr_wayNext gr_wayLinks : Nat → Int32} {mk_width mk_drawn mk_seed : Int32} {mk_bits : Nat → Int64} {bn_links : Nat → Int32} {mo_pageLength : Int32} {mo_page : Nat → Int32} {mo_nodes mo_links : Int32} {mo_fromOf mo_toOf : Nat → Int32} {mo_width mo_drawn mo_seed : Int32} {mo_bundleOf : Nat → Int32} {mo_netsRead mo_sent mo_passagesEver mo_astrayEver mo_loopsEver : Int32} {mo_marks : Nat → Int64} {mo_leftOf : Nat → Int32} {mo_wayMany : Int32} {mo_wayAt : Nat → Int32} (hI : Inv xx_netsRead xx_timesSent xx_passagesSent xx_astraySent xx_loopsSent pg_codes pg_length gr_nodes gr_links gr_start gr_end gr_wayLength gr_wayNext gr_wayLinks mk_width mk_drawn mk_seed mk_bits bn_links mo_pageLength mo_page mo_nodes mo_links mo_fromOf mo_toOf mo_width mo_drawn mo_seed mo_bundleOf mo_netsRead mo_sent mo_passagesEver mo_astrayEver mo_loopsEver mo_marks) (x1 x2 x3 x4 : Int32) (hzx4 : x4 = 0 ∨ x4 = 1) : ∃ (r : Int64) (n_mo_leftOf : Nat → Int32) (n_mo_wayMany : Int32) (n_mo_wayAt : Nat → Int32), f_X5_fold gr_nodes gr_links gr_wayLinks mk_bits bn_links x1 x2 x3 x4 = some r ∧ f_X6_fold mo_nodes mo_links mo_fromOf mo_toOf mo_bundleOf mo_marks mo_leftOf mo_wayMany mo_wayAt x1 x2 x3 x4 = some (r, n_mo_leftOf, n_mo_wayMany, n_mo_wayAt) ∧ Inv xx_netsRead xx_timesSent xx_passagesSent xx_astraySent xx_loopsSent pg_codes pg_length gr_nodes gr_links gr_start gr_end gr_wayLength gr_wayNext gr_wayLinks mk_width mk_drawn mk_seed mk_bits bn_links mo_pageLength mo_page mo_nodes mo_links mo_fromOf mo_toOf mo_width mo_drawn mo_seed mo_bundleOf mo_netsRead mo_sent mo_passagesEver mo_astrayEver mo_loopsEver mo_marks := by
  have hI0 := hI
  obtain ⟨⟨e1, e2, e3, e4, e5⟩, ⟨p1, p2, p3, p4, p5, p6, p7, p8, p9, p10⟩, n, N, K, fr, to, W, Dn, S, ⟨hn, hlen⟩, ⟨hg1, hg2, hwf, hse, hways⟩, ⟨hw1, hw2, hd1, hd2, hS, hm1, hm2, hm3, hmk⟩, hB⟩ := hI
  subst e1 e2 e3 e4 e5 p1 p2 p3 p4 p5 p6 p7 p8 p9 p10 hlen hg1 hg2 hm1 hm2 hm3
  have hN6 := hwf.1
  have hK16 := hwf.2.1
  unfold f_X5_fold f_X6_fold
  rcases ix_cases x1 (n := N) (by omega) with h | ⟨f, hf, rfl⟩
  · exact ⟨-1001, mo_leftOf, mo_wayMany, mo_wayAt, if_pos (hn_out h), if_pos (mn_out (by omega) h), hI0⟩
  rw [hn_in hf (by omega), if_neg ne10, mn_in hf (by omega), if_neg ne10]
  rcases set_cases hN6 x2 with ⟨s1, s2⟩ | ⟨s1, s2⟩
  · exact ⟨-1002, mo_leftOf, mo_wayMany, mo_wayAt, if_pos s1, if_pos s2, hI0⟩
  rw [s1, s2, if_neg ne10, if_neg ne10]
  rcases ix_cases x3 (n := 3) (by omega) with h | ⟨v, hv, rfl⟩
  · exact ⟨-1002, mo_leftOf, mo_wayMany, mo_wayAt, if_pos (va_out h), if_pos (mva_out h), hI0⟩
  rw [va_in hv, if_neg ne10, mva_in hv, if_neg ne10]
  obtain ⟨tm, htm, h1, lf', wm', wa', h2⟩ := tree_ok hwf hse hways hf x2 mo_leftOf mo_wayAt mo_wayMany
  obtain ⟨M, hMl, k1, k2⟩ := fold_ok (W := W) (Dn := Dn) (S := S) (width := nI W) (drawn := nI Dn) (seed := nI S) (xb := mk_bits) (mb := mo_marks) ⟨hw1, hw2, hd1, hd2, hS, rfl, rfl, rfl, hmk⟩ hK16 bn_links (nI tm) hv hzx4
  rw [h1, h2]
  simp only [Option.bind_some]
  rw [k1, k2]
  exact ⟨lN M, lf', wm', wa', rfl, rfl, hI0⟩
set_option maxHeartbeats 1000000 in
theorem sim_spread {xx_netsRead xx_timesSent xx_passagesSent xx_astraySent xx_loopsSent : Int32} {pg_codes : Nat → Int32} {pg_length gr_nodes gr_links : Int32} {gr_start gr_end gr_wayLength gr_wayNext gr_wayLinks : Nat → Int32} {mk_width mk_drawn mk_seed : Int32} {mk_bits : Nat → Int64} {bn_links : Nat → Int32} {mo_pageLength : Int32} {mo_page : Nat → Int32} {mo_nodes mo_links : Int32} {mo_fromOf mo_toOf : Nat → Int32} {mo_width mo_drawn mo_seed : Int32} {mo_bundleOf : Nat → Int32} {mo_netsRead mo_sent mo_passagesEver mo_astrayEver mo_loopsEver : Int32} {mo_marks : Nat → Int64} {fl_foldBits fl_passages fl_astray fl_loops fl_steps fl_reached fl_matchingAside : Int32} {mo_leftOf : Nat → Int32} {mo_wayMany : Int32} {mo_wayAt : Nat → Int32} {mo_bitsNow : Int64} {mo_passages mo_astray mo_loops mo_steps mo_reached mo_others : Int32} (hI : Inv xx_netsRead xx_timesSent xx_passagesSent xx_astraySent xx_loopsSent pg_codes pg_length gr_nodes gr_links gr_start gr_end gr_wayLength gr_wayNext gr_wayLinks mk_width mk_drawn mk_seed mk_bits bn_links mo_pageLength mo_page mo_nodes mo_links mo_fromOf mo_toOf mo_width mo_drawn mo_seed mo_bundleOf mo_netsRead mo_sent mo_passagesEver mo_astrayEver mo_loopsEver mo_marks) (x1 x2 x3 x4 x5 : Int32) (hzx4 : x4 = 0 ∨ x4 = 1) : ∃ (r : Int32) (n_fl_foldBits : Int32) (n_fl_passages : Int32) (n_fl_astray : Int32) (n_fl_loops : Int32) (n_fl_steps : Int32) (n_fl_reached : Int32) (n_fl_matchingAside : Int32) (n_mo_leftOf : Nat → Int32) (n_mo_wayMany : Int32) (n_mo_wayAt : Nat → Int32) (n_mo_bitsNow : Int64) (n_mo_passages : Int32) (n_mo_astray : Int32) (n_mo_loops : Int32) (n_mo_steps : Int32) (n_mo_reached : Int32) (n_mo_others : Int32), f_X5_spread gr_nodes gr_links gr_start gr_end gr_wayLinks mk_width mk_drawn mk_bits bn_links fl_foldBits fl_passages fl_astray fl_loops fl_steps fl_reached fl_matchingAside x1 x2 x3 x4 x5 = some (r, n_fl_foldBits, n_fl_passages, n_fl_astray, n_fl_loops, n_fl_steps, n_fl_reached, n_fl_matchingAside) ∧ f_X6_spread mo_nodes mo_links mo_fromOf mo_toOf mo_width mo_drawn mo_bundleOf mo_marks mo_leftOf mo_wayMany mo_wayAt mo_bitsNow mo_passages mo_astray mo_loops mo_steps mo_reached mo_others x1 x2 x3 x4 x5 = some (r, n_mo_leftOf, n_mo_wayMany, n_mo_wayAt, n_mo_bitsNow, n_mo_passages, n_mo_astray, n_mo_loops, n_mo_steps, n_mo_reached, n_mo_others) ∧ Inv xx_netsRead xx_timesSent xx_passagesSent xx_astraySent xx_loopsSent pg_codes pg_length gr_nodes gr_links gr_start gr_end gr_wayLength gr_wayNext gr_wayLinks mk_width mk_drawn mk_seed mk_bits bn_links mo_pageLength mo_page mo_nodes mo_links mo_fromOf mo_toOf mo_width mo_drawn mo_seed mo_bundleOf mo_netsRead mo_sent mo_passagesEver mo_astrayEver mo_loopsEver mo_marks := by
  have hI0 := hI
  obtain ⟨⟨e1, e2, e3, e4, e5⟩, ⟨p1, p2, p3, p4, p5, p6, p7, p8, p9, p10⟩, n, N, K, fr, to, W, Dn, S, ⟨hn, hlen⟩, ⟨hg1, hg2, hwf, hse, hways⟩, ⟨hw1, hw2, hd1, hd2, hS, hm1, hm2, hm3, hmk⟩, hB⟩ := hI
  subst e1 e2 e3 e4 e5 p1 p2 p3 p4 p5 p6 p7 p8 p9 p10 hlen hg1 hg2 hm1 hm2 hm3
  have hN6 := hwf.1
  have hK16 := hwf.2.1
  unfold f_X5_spread f_X6_spread
  rcases ix_cases x1 (n := N) (by omega) with h | ⟨f, hf, rfl⟩
  · exact ⟨-1001, fl_foldBits, fl_passages, fl_astray, fl_loops, fl_steps, fl_reached, fl_matchingAside, mo_leftOf, mo_wayMany, mo_wayAt, mo_bitsNow, mo_passages, mo_astray, mo_loops, mo_steps, mo_reached, mo_others, if_pos (hn_out h), if_pos (mn_out (by omega) h), hI0⟩
  rw [hn_in hf (by omega), if_neg ne10, mn_in hf (by omega), if_neg ne10]
  rcases set_cases hN6 x2 with ⟨s1, s2⟩ | ⟨s1, s2⟩
  · exact ⟨-1002, fl_foldBits, fl_passages, fl_astray, fl_loops, fl_steps, fl_reached, fl_matchingAside, mo_leftOf, mo_wayMany, mo_wayAt, mo_bitsNow, mo_passages, mo_astray, mo_loops, mo_steps, mo_reached, mo_others, if_pos s1, if_pos s2, hI0⟩
  rw [s1, s2, if_neg ne10, if_neg ne10]
  rcases ix_cases x3 (n := 3) (by omega) with h | ⟨v, hv, rfl⟩
  · exact ⟨-1002, fl_foldBits, fl_passages, fl_astray, fl_loops, fl_steps, fl_reached, fl_matchingAside, mo_leftOf, mo_wayMany, mo_wayAt, mo_bitsNow, mo_passages, mo_astray, mo_loops, mo_steps, mo_reached, mo_others, if_pos (va_out h), if_pos (mva_out h), hI0⟩
  rw [va_in hv, if_neg ne10, mva_in hv, if_neg ne10]
  rcases ix_cases x5 (n := 9) (by omega) with h | ⟨w, hw, rfl⟩
  · refine ⟨-1002, fl_foldBits, fl_passages, fl_astray, fl_loops, fl_steps, fl_reached, fl_matchingAside, mo_leftOf, mo_wayMany, mo_wayAt, mo_bitsNow, mo_passages, mo_astray, mo_loops, mo_steps, mo_reached, mo_others, ?_, if_pos (wi_out (n := 9) (by omega) h), hI0⟩
    by_cases h0 : x5 < 0
    · rw [if_pos h0]
    · rw [if_neg h0, if_neg]
      intro q
      rcases h with h | h
      · exact h0 h
      · rw [fa_le] at h
        rw [fa_lt] at q
        have e1 : (9 : Int32).toInt = 9 := rfl
        have e2 : (nI 9).toInt = 9 := rfl
        omega
  have e8 : f_X6_within (nI w) 0 8 = 1 := wi_in (n := 9) hw (by omega)
  rw [e8, if_neg ne10, if_neg (nI_pos (by omega)), if_pos (show nI w < 9 from nI_lt (b := 9) hw (by omega))]
  obtain ⟨tm, htm, h1, lf', wm', wa', h2⟩ := tree_ok hwf hse hways hf x2 mo_leftOf mo_wayAt mo_wayMany
  obtain ⟨ct, a, R, o, M, p, l, s, q1, q2, q3, q4, q5⟩ := spo_ok (W := W) (Dn := Dn) (S := S) (width := nI W) (drawn := nI Dn) (seed := nI S) (xb := mk_bits) (mb := mo_marks) (bn := bn_links) (z := x4) hwf hse ⟨hw1, hw2, hd1, hd2, hS, rfl, rfl, rfl, hmk⟩ hB hf htm hzx4 h1
  obtain ⟨z, z1, z2⟩ := fact_eq hw1 hw2 hd1 hd2 (q5 v hv) (q3 v hv) (p v) (nI (a v)) (l v) (s v) (nI (R v)) (nI (o v)) w hw
  rw [q1 v hv, h2]
  simp only [Option.bind_some]
  rw [q2 v hv]
  simp only [Option.bind_some]
  rw [z1, z2]
  exact ⟨z, nI (ct v), p v, nI (a v), l v, s v, nI (R v), nI (o v), lf', wm', wa', lN (M v), p v, nI (a v), l v, s v, nI (R v), nI (o v), rfl, rfl, hI0⟩
set_option maxHeartbeats 1000000 in
theorem sim_best {xx_netsRead xx_timesSent xx_passagesSent xx_astraySent xx_loopsSent : Int32} {pg_codes : Nat → Int32} {pg_length gr_nodes gr_links : Int32} {gr_start gr_end gr_wayLength gr_wayNext gr_wayLinks : Nat → Int32} {mk_width mk_drawn mk_seed : Int32} {mk_bits : Nat → Int64} {bn_links : Nat → Int32} {mo_pageLength : Int32} {mo_page : Nat → Int32} {mo_nodes mo_links : Int32} {mo_fromOf mo_toOf : Nat → Int32} {mo_width mo_drawn mo_seed : Int32} {mo_bundleOf : Nat → Int32} {mo_netsRead mo_sent mo_passagesEver mo_astrayEver mo_loopsEver : Int32} {mo_marks : Nat → Int64} {fl_foldBits fl_passages fl_astray fl_loops fl_steps fl_reached fl_matchingAside : Int32} {mo_leftOf : Nat → Int32} {mo_wayMany : Int32} {mo_wayAt : Nat → Int32} {mo_bitsNow : Int64} {mo_passages mo_astray mo_loops mo_steps mo_reached mo_others : Int32} (hI : Inv xx_netsRead xx_timesSent xx_passagesSent xx_astraySent xx_loopsSent pg_codes pg_length gr_nodes gr_links gr_start gr_end gr_wayLength gr_wayNext gr_wayLinks mk_width mk_drawn mk_seed mk_bits bn_links mo_pageLength mo_page mo_nodes mo_links mo_fromOf mo_toOf mo_width mo_drawn mo_seed mo_bundleOf mo_netsRead mo_sent mo_passagesEver mo_astrayEver mo_loopsEver mo_marks) (x1 x2 x3 : Int32) (hzx3 : x3 = 0 ∨ x3 = 1) : ∃ (r : Int32) (n_fl_foldBits : Int32) (n_fl_passages : Int32) (n_fl_astray : Int32) (n_fl_loops : Int32) (n_fl_steps : Int32) (n_fl_reached : Int32) (n_fl_matchingAside : Int32) (n_mo_leftOf : Nat → Int32) (n_mo_wayMany : Int32) (n_mo_wayAt : Nat → Int32) (n_mo_bitsNow : Int64) (n_mo_passages : Int32) (n_mo_astray : Int32) (n_mo_loops : Int32) (n_mo_steps : Int32) (n_mo_reached : Int32) (n_mo_others : Int32), f_X5_best gr_nodes gr_links gr_start gr_end gr_wayLinks mk_bits bn_links fl_foldBits fl_passages fl_astray fl_loops fl_steps fl_reached fl_matchingAside x1 x2 x3 = some (r, n_fl_foldBits, n_fl_passages, n_fl_astray, n_fl_loops, n_fl_steps, n_fl_reached, n_fl_matchingAside) ∧ f_X6_best mo_nodes mo_links mo_fromOf mo_toOf mo_bundleOf mo_marks mo_leftOf mo_wayMany mo_wayAt mo_bitsNow mo_passages mo_astray mo_loops mo_steps mo_reached mo_others x1 x2 x3 = some (r, n_mo_leftOf, n_mo_wayMany, n_mo_wayAt, n_mo_bitsNow, n_mo_passages, n_mo_astray, n_mo_loops, n_mo_steps, n_mo_reached, n_mo_others) ∧ Inv xx_netsRead xx_timesSent xx_passagesSent xx_astraySent xx_loopsSent pg_codes pg_length gr_nodes gr_links gr_start gr_end gr_wayLength gr_wayNext gr_wayLinks mk_width mk_drawn mk_seed mk_bits bn_links mo_pageLength mo_page mo_nodes mo_links mo_fromOf mo_toOf mo_width mo_drawn mo_seed mo_bundleOf mo_netsRead mo_sent mo_passagesEver mo_astrayEver mo_loopsEver mo_marks := by
  have hI0 := hI
  obtain ⟨⟨e1, e2, e3, e4, e5⟩, ⟨p1, p2, p3, p4, p5, p6, p7, p8, p9, p10⟩, n, N, K, fr, to, W, Dn, S, ⟨hn, hlen⟩, ⟨hg1, hg2, hwf, hse, hways⟩, ⟨hw1, hw2, hd1, hd2, hS, hm1, hm2, hm3, hmk⟩, hB⟩ := hI
  subst e1 e2 e3 e4 e5 p1 p2 p3 p4 p5 p6 p7 p8 p9 p10 hlen hg1 hg2 hm1 hm2 hm3
  have hN6 := hwf.1
  have hK16 := hwf.2.1
  unfold f_X5_best f_X6_best
  rcases ix_cases x1 (n := N) (by omega) with h | ⟨f, hf, rfl⟩
  · exact ⟨-1001, fl_foldBits, fl_passages, fl_astray, fl_loops, fl_steps, fl_reached, fl_matchingAside, mo_leftOf, mo_wayMany, mo_wayAt, mo_bitsNow, mo_passages, mo_astray, mo_loops, mo_steps, mo_reached, mo_others, if_pos (hn_out h), if_pos (mn_out (by omega) h), hI0⟩
  rw [hn_in hf (by omega), if_neg ne10, mn_in hf (by omega), if_neg ne10]
  rcases set_cases hN6 x2 with ⟨s1, s2⟩ | ⟨s1, s2⟩
  · exact ⟨-1002, fl_foldBits, fl_passages, fl_astray, fl_loops, fl_steps, fl_reached, fl_matchingAside, mo_leftOf, mo_wayMany, mo_wayAt, mo_bitsNow, mo_passages, mo_astray, mo_loops, mo_steps, mo_reached, mo_others, if_pos s1, if_pos s2, hI0⟩
  rw [s1, s2, if_neg ne10, if_neg ne10]
  obtain ⟨tm, htm, h1, lf', wm', wa', h2⟩ := tree_ok hwf hse hways hf x2 mo_leftOf mo_wayAt mo_wayMany
  obtain ⟨ct, a, R, o, M, p, l, s, q1, q2, q3, q4, q5⟩ := spo_ok (W := W) (Dn := Dn) (S := S) (width := nI W) (drawn := nI Dn) (seed := nI S) (xb := mk_bits) (mb := mo_marks) (bn := bn_links) (z := x3) hwf hse ⟨hw1, hw2, hd1, hd2, hS, rfl, rfl, rfl, hmk⟩ hB hf htm hzx3 h1
  obtain ⟨b, hb, ⟨t1, t2, t3, t4, t5, t6, t7, hx⟩, u1, u2, u3, u4, u5, u6, u7, hm⟩ := best_ok q1 q2 q3 q4 q5 fl_foldBits fl_passages fl_astray fl_loops fl_steps fl_reached fl_matchingAside mo_bitsNow mo_passages mo_astray mo_loops mo_steps mo_reached mo_others
  rw [hx, h2]
  simp only [Option.bind_some]
  rw [hm]
  exact ⟨nI b, t1, t2, t3, t4, t5, t6, t7, lf', wm', wa', u1, u2, u3, u4, u5, u6, u7, rfl, rfl, hI0⟩
set_option maxHeartbeats 1000000 in
theorem sim_send {xx_netsRead xx_timesSent xx_passagesSent xx_astraySent xx_loopsSent : Int32} {pg_codes : Nat → Int32} {pg_length gr_nodes gr_links : Int32} {gr_start gr_end gr_wayLength gr_wayNext gr_wayLinks : Nat → Int32} {mk_width mk_drawn mk_seed : Int32} {mk_bits : Nat → Int64} {bn_links : Nat → Int32} {mo_pageLength : Int32} {mo_page : Nat → Int32} {mo_nodes mo_links : Int32} {mo_fromOf mo_toOf : Nat → Int32} {mo_width mo_drawn mo_seed : Int32} {mo_bundleOf : Nat → Int32} {mo_netsRead mo_sent mo_passagesEver mo_astrayEver mo_loopsEver : Int32} {mo_marks : Nat → Int64} {fl_foldBits fl_passages fl_astray fl_loops fl_steps fl_reached fl_matchingAside : Int32} {mo_leftOf : Nat → Int32} {mo_wayMany : Int32} {mo_wayAt : Nat → Int32} {mo_bitsNow : Int64} {mo_passages mo_astray mo_loops mo_steps mo_reached mo_others : Int32} (hI : Inv xx_netsRead xx_timesSent xx_passagesSent xx_astraySent xx_loopsSent pg_codes pg_length gr_nodes gr_links gr_start gr_end gr_wayLength gr_wayNext gr_wayLinks mk_width mk_drawn mk_seed mk_bits bn_links mo_pageLength mo_page mo_nodes mo_links mo_fromOf mo_toOf mo_width mo_drawn mo_seed mo_bundleOf mo_netsRead mo_sent mo_passagesEver mo_astrayEver mo_loopsEver mo_marks) (x1 x2 x3 : Int32) (hzx3 : x3 = 0 ∨ x3 = 1) : ∃ (r : Int32) (n_xx_timesSent : Int32) (n_xx_passagesSent : Int32) (n_xx_astraySent : Int32) (n_xx_loopsSent : Int32) (n_fl_foldBits : Int32) (n_fl_passages : Int32) (n_fl_astray : Int32) (n_fl_loops : Int32) (n_fl_steps : Int32) (n_fl_reached : Int32) (n_fl_matchingAside : Int32) (n_mo_sent : Int32) (n_mo_passagesEver : Int32) (n_mo_astrayEver : Int32) (n_mo_loopsEver : Int32) (n_mo_leftOf : Nat → Int32) (n_mo_wayMany : Int32) (n_mo_wayAt : Nat → Int32) (n_mo_bitsNow : Int64) (n_mo_passages : Int32) (n_mo_astray : Int32) (n_mo_loops : Int32) (n_mo_steps : Int32) (n_mo_reached : Int32) (n_mo_others : Int32), f_X5_send xx_timesSent xx_passagesSent xx_astraySent xx_loopsSent gr_nodes gr_links gr_start gr_end gr_wayLinks mk_bits bn_links fl_foldBits fl_passages fl_astray fl_loops fl_steps fl_reached fl_matchingAside x1 x2 x3 = some (r, n_xx_timesSent, n_xx_passagesSent, n_xx_astraySent, n_xx_loopsSent, n_fl_foldBits, n_fl_passages, n_fl_astray, n_fl_loops, n_fl_steps, n_fl_reached, n_fl_matchingAside) ∧ f_X6_send mo_nodes mo_links mo_fromOf mo_toOf mo_bundleOf mo_sent mo_passagesEver mo_astrayEver mo_loopsEver mo_marks mo_leftOf mo_wayMany mo_wayAt mo_bitsNow mo_passages mo_astray mo_loops mo_steps mo_reached mo_others x1 x2 x3 = some (r, n_mo_sent, n_mo_passagesEver, n_mo_astrayEver, n_mo_loopsEver, n_mo_leftOf, n_mo_wayMany, n_mo_wayAt, n_mo_bitsNow, n_mo_passages, n_mo_astray, n_mo_loops, n_mo_steps, n_mo_reached, n_mo_others) ∧ Inv xx_netsRead n_xx_timesSent n_xx_passagesSent n_xx_astraySent n_xx_loopsSent pg_codes pg_length gr_nodes gr_links gr_start gr_end gr_wayLength gr_wayNext gr_wayLinks mk_width mk_drawn mk_seed mk_bits bn_links mo_pageLength mo_page mo_nodes mo_links mo_fromOf mo_toOf mo_width mo_drawn mo_seed mo_bundleOf mo_netsRead n_mo_sent n_mo_passagesEver n_mo_astrayEver n_mo_loopsEver mo_marks := by
  have hI0 := hI
  obtain ⟨⟨e1, e2, e3, e4, e5⟩, ⟨p1, p2, p3, p4, p5, p6, p7, p8, p9, p10⟩, n, N, K, fr, to, W, Dn, S, ⟨hn, hlen⟩, ⟨hg1, hg2, hwf, hse, hways⟩, ⟨hw1, hw2, hd1, hd2, hS, hm1, hm2, hm3, hmk⟩, hB⟩ := hI
  subst e1 e2 e3 e4 e5 p1 p2 p3 p4 p5 p6 p7 p8 p9 p10 hlen hg1 hg2 hm1 hm2 hm3
  have hN6 := hwf.1
  have hK16 := hwf.2.1
  unfold f_X5_send f_X6_send
  rcases ix_cases x1 (n := N) (by omega) with h | ⟨f, hf, rfl⟩
  · exact ⟨-1001, xx_timesSent, xx_passagesSent, xx_astraySent, xx_loopsSent, fl_foldBits, fl_passages, fl_astray, fl_loops, fl_steps, fl_reached, fl_matchingAside, xx_timesSent, xx_passagesSent, xx_astraySent, xx_loopsSent, mo_leftOf, mo_wayMany, mo_wayAt, mo_bitsNow, mo_passages, mo_astray, mo_loops, mo_steps, mo_reached, mo_others, if_pos (hn_out h), if_pos (mn_out (by omega) h), hI0⟩
  rw [hn_in hf (by omega), if_neg ne10, mn_in hf (by omega), if_neg ne10]
  rcases set_cases hN6 x2 with ⟨s1, s2⟩ | ⟨s1, s2⟩
  · exact ⟨-1002, xx_timesSent, xx_passagesSent, xx_astraySent, xx_loopsSent, fl_foldBits, fl_passages, fl_astray, fl_loops, fl_steps, fl_reached, fl_matchingAside, xx_timesSent, xx_passagesSent, xx_astraySent, xx_loopsSent, mo_leftOf, mo_wayMany, mo_wayAt, mo_bitsNow, mo_passages, mo_astray, mo_loops, mo_steps, mo_reached, mo_others, if_pos s1, if_pos s2, hI0⟩
  rw [s1, s2, if_neg ne10, if_neg ne10]
  obtain ⟨tm, htm, h1, lf', wm', wa', h2⟩ := tree_ok hwf hse hways hf x2 mo_leftOf mo_wayAt mo_wayMany
  obtain ⟨ct, a, R, o, M, p, l, s, q1, q2, q3, q4, q5⟩ := spo_ok (W := W) (Dn := Dn) (S := S) (width := nI W) (drawn := nI Dn) (seed := nI S) (xb := mk_bits) (mb := mo_marks) (bn := bn_links) (z := x3) hwf hse ⟨hw1, hw2, hd1, hd2, hS, rfl, rfl, rfl, hmk⟩ hB hf htm hzx3 h1
  obtain ⟨b, hb, ⟨t1, t2, t3, t4, t5, t6, t7, hx⟩, u1, u2, u3, u4, u5, u6, u7, hm⟩ := best_ok q1 q2 q3 q4 q5 fl_foldBits fl_passages fl_astray fl_loops fl_steps fl_reached fl_matchingAside mo_bitsNow mo_passages mo_astray mo_loops mo_steps mo_reached mo_others
  unfold f_X6_sendNow
  rw [hx, h2]
  simp only [Option.bind_some]
  rw [hm, q1 b hb]
  simp only [Option.bind_some]
  rw [q2 b hb]
  exact ⟨nI (a b), xx_timesSent + 1, xx_passagesSent + p b, xx_astraySent + nI (a b), xx_loopsSent + l b, nI (ct b), p b, nI (a b), l b, s b, nI (R b), nI (o b), xx_timesSent + 1, xx_passagesSent + p b, xx_astraySent + nI (a b), xx_loopsSent + l b, lf', wm', wa', lN (M b), p b, nI (a b), l b, s b, nI (R b), nI (o b), rfl, rfl, ⟨rfl, rfl, rfl, rfl, rfl⟩, ⟨rfl, rfl, rfl, rfl, rfl, rfl, rfl, rfl, rfl, rfl⟩, n, N, K, fr, to, W, Dn, S, ⟨hn, rfl⟩, ⟨rfl, rfl, hwf, hse, hways⟩, ⟨hw1, hw2, hd1, hd2, hS, rfl, rfl, rfl, hmk⟩, hB⟩
set_option maxHeartbeats 1000000 in
theorem sim_count {xx_netsRead xx_timesSent xx_passagesSent xx_astraySent xx_loopsSent : Int32} {pg_codes : Nat → Int32} {pg_length gr_nodes gr_links : Int32} {gr_start gr_end gr_wayLength gr_wayNext gr_wayLinks : Nat → Int32} {mk_width mk_drawn mk_seed : Int32} {mk_bits : Nat → Int64} {bn_links : Nat → Int32} {mo_pageLength : Int32} {mo_page : Nat → Int32} {mo_nodes mo_links : Int32} {mo_fromOf mo_toOf : Nat → Int32} {mo_width mo_drawn mo_seed : Int32} {mo_bundleOf : Nat → Int32} {mo_netsRead mo_sent mo_passagesEver mo_astrayEver mo_loopsEver : Int32} {mo_marks : Nat → Int64} (hI : Inv xx_netsRead xx_timesSent xx_passagesSent xx_astraySent xx_loopsSent pg_codes pg_length gr_nodes gr_links gr_start gr_end gr_wayLength gr_wayNext gr_wayLinks mk_width mk_drawn mk_seed mk_bits bn_links mo_pageLength mo_page mo_nodes mo_links mo_fromOf mo_toOf mo_width mo_drawn mo_seed mo_bundleOf mo_netsRead mo_sent mo_passagesEver mo_astrayEver mo_loopsEver mo_marks) (x1 : Int32)  : ∃ (r : Int32), f_X5_count xx_netsRead xx_timesSent xx_passagesSent xx_astraySent xx_loopsSent pg_length gr_nodes gr_links mk_width mk_drawn mk_seed bn_links x1 = some r ∧ f_X6_count mo_pageLength mo_nodes mo_links mo_width mo_drawn mo_seed mo_bundleOf mo_netsRead mo_sent mo_passagesEver mo_astrayEver mo_loopsEver x1 = some r ∧ Inv xx_netsRead xx_timesSent xx_passagesSent xx_astraySent xx_loopsSent pg_codes pg_length gr_nodes gr_links gr_start gr_end gr_wayLength gr_wayNext gr_wayLinks mk_width mk_drawn mk_seed mk_bits bn_links mo_pageLength mo_page mo_nodes mo_links mo_fromOf mo_toOf mo_width mo_drawn mo_seed mo_bundleOf mo_netsRead mo_sent mo_passagesEver mo_astrayEver mo_loopsEver mo_marks := by
  have hI0 := hI
  obtain ⟨⟨e1, e2, e3, e4, e5⟩, ⟨p1, p2, p3, p4, p5, p6, p7, p8, p9, p10⟩, n, N, K, fr, to, W, Dn, S, ⟨hn, hlen⟩, ⟨hg1, hg2, hwf, hse, hways⟩, ⟨hw1, hw2, hd1, hd2, hS, hm1, hm2, hm3, hmk⟩, hB⟩ := hI
  subst e1 e2 e3 e4 e5 p1 p2 p3 p4 p5 p6 p7 p8 p9 p10 hlen hg1 hg2 hm1 hm2 hm3
  have hN6 := hwf.1
  have hK16 := hwf.2.1
  have e6 : f_X0_howMany bn_links = f_X6_bundlesMany bn_links := how_many bn_links
  unfold f_X5_count f_X6_count f_X6_howMany f_X2_nodeCount f_X2_linkCount f_X4_size f_X3_setting
  rw [← e6]
  obtain ⟨z, hz⟩ : ∃ z, f_X0_howMany bn_links = some z := how_some bn_links
  rw [hz]
  by_cases c0 : x1 = 0
  · subst c0; exact ⟨_, rfl, rfl, hI0⟩
  by_cases c1 : x1 = 1
  · subst c1; exact ⟨_, rfl, rfl, hI0⟩
  by_cases c2 : x1 = 2
  · subst c2; exact ⟨_, rfl, rfl, hI0⟩
  by_cases c3 : x1 = 3
  · subst c3; exact ⟨_, rfl, rfl, hI0⟩
  by_cases c4 : x1 = 4
  · subst c4; exact ⟨_, rfl, rfl, hI0⟩
  by_cases c5 : x1 = 5
  · subst c5; exact ⟨_, rfl, rfl, hI0⟩
  by_cases c6 : x1 = 6
  · subst c6; exact ⟨_, rfl, rfl, hI0⟩
  by_cases c7 : x1 = 7
  · subst c7; exact ⟨_, rfl, rfl, hI0⟩
  by_cases c8 : x1 = 8
  · subst c8; exact ⟨_, rfl, rfl, hI0⟩
  by_cases c9 : x1 = 9
  · subst c9; exact ⟨_, rfl, rfl, hI0⟩
  by_cases c10 : x1 = 10
  · subst c10; exact ⟨_, rfl, rfl, hI0⟩
  by_cases c11 : x1 = 11
  · subst c11; exact ⟨_, rfl, rfl, hI0⟩
  simp only [if_neg c0, if_neg c1, if_neg c2, if_neg c3, if_neg c4, if_neg c5, if_neg c6, if_neg c7, if_neg c8, if_neg c9, if_neg c10, if_neg c11]
  exact ⟨_, rfl, rfl, hI0⟩
set_option maxHeartbeats 1000000 in
theorem sim_digest {xx_netsRead xx_timesSent xx_passagesSent xx_astraySent xx_loopsSent : Int32} {pg_codes : Nat → Int32} {pg_length gr_nodes gr_links : Int32} {gr_start gr_end gr_wayLength gr_wayNext gr_wayLinks : Nat → Int32} {mk_width mk_drawn mk_seed : Int32} {mk_bits : Nat → Int64} {bn_links : Nat → Int32} {mo_pageLength : Int32} {mo_page : Nat → Int32} {mo_nodes mo_links : Int32} {mo_fromOf mo_toOf : Nat → Int32} {mo_width mo_drawn mo_seed : Int32} {mo_bundleOf : Nat → Int32} {mo_netsRead mo_sent mo_passagesEver mo_astrayEver mo_loopsEver : Int32} {mo_marks : Nat → Int64} {fl_foldBits fl_passages fl_astray fl_loops fl_steps fl_reached fl_matchingAside : Int32} {mo_leftOf : Nat → Int32} {mo_wayMany : Int32} {mo_wayAt : Nat → Int32} {mo_bitsNow : Int64} {mo_passages mo_astray mo_loops mo_steps mo_reached mo_others : Int32} (hI : Inv xx_netsRead xx_timesSent xx_passagesSent xx_astraySent xx_loopsSent pg_codes pg_length gr_nodes gr_links gr_start gr_end gr_wayLength gr_wayNext gr_wayLinks mk_width mk_drawn mk_seed mk_bits bn_links mo_pageLength mo_page mo_nodes mo_links mo_fromOf mo_toOf mo_width mo_drawn mo_seed mo_bundleOf mo_netsRead mo_sent mo_passagesEver mo_astrayEver mo_loopsEver mo_marks)   : ∃ (r : Int64) (n_fl_foldBits : Int32) (n_fl_passages : Int32) (n_fl_astray : Int32) (n_fl_loops : Int32) (n_fl_steps : Int32) (n_fl_reached : Int32) (n_fl_matchingAside : Int32) (n_mo_leftOf : Nat → Int32) (n_mo_wayMany : Int32) (n_mo_wayAt : Nat → Int32) (n_mo_bitsNow : Int64) (n_mo_passages : Int32) (n_mo_astray : Int32) (n_mo_loops : Int32) (n_mo_steps : Int32) (n_mo_reached : Int32) (n_mo_others : Int32) (n_mo_h : Int64), f_X5_digest xx_netsRead xx_timesSent xx_passagesSent xx_astraySent xx_loopsSent pg_codes pg_length gr_nodes gr_links gr_start gr_end gr_wayLinks mk_width mk_drawn mk_seed mk_bits bn_links fl_foldBits fl_passages fl_astray fl_loops fl_steps fl_reached fl_matchingAside = some (r, n_fl_foldBits, n_fl_passages, n_fl_astray, n_fl_loops, n_fl_steps, n_fl_reached, n_fl_matchingAside) ∧ f_X6_digest mo_pageLength mo_page mo_nodes mo_links mo_fromOf mo_toOf mo_width mo_drawn mo_seed mo_bundleOf mo_netsRead mo_sent mo_passagesEver mo_astrayEver mo_loopsEver mo_marks mo_leftOf mo_wayMany mo_wayAt mo_bitsNow mo_passages mo_astray mo_loops mo_steps mo_reached mo_others = some (r, n_mo_leftOf, n_mo_wayMany, n_mo_wayAt, n_mo_bitsNow, n_mo_passages, n_mo_astray, n_mo_loops, n_mo_steps, n_mo_reached, n_mo_others, n_mo_h) ∧ Inv xx_netsRead xx_timesSent xx_passagesSent xx_astraySent xx_loopsSent pg_codes pg_length gr_nodes gr_links gr_start gr_end gr_wayLength gr_wayNext gr_wayLinks mk_width mk_drawn mk_seed mk_bits bn_links mo_pageLength mo_page mo_nodes mo_links mo_fromOf mo_toOf mo_width mo_drawn mo_seed mo_bundleOf mo_netsRead mo_sent mo_passagesEver mo_astrayEver mo_loopsEver mo_marks := by
  have hI0 := hI
  obtain ⟨⟨e1, e2, e3, e4, e5⟩, ⟨p1, p2, p3, p4, p5, p6, p7, p8, p9, p10⟩, n, N, K, fr, to, W, Dn, S, ⟨hn, hlen⟩, ⟨hg1, hg2, hwf, hse, hways⟩, ⟨hw1, hw2, hd1, hd2, hS, hm1, hm2, hm3, hmk⟩, hB⟩ := hI
  subst e1 e2 e3 e4 e5 p1 p2 p3 p4 p5 p6 p7 p8 p9 p10 hlen hg1 hg2 hm1 hm2 hm3
  have hN6 := hwf.1
  have hK16 := hwf.2.1
  obtain ⟨z1, a1, b1⟩ := dg_links (st := gr_start) (en := gr_end) (bn := bn_links) hK16 hmk 1693
  obtain ⟨z2, a2, b2⟩ := dg_bund (bn := bn_links) hmk z1
  obtain ⟨⟨g1, g2, g3, g4, g5, g6, g7, g8⟩, ⟨k1, k2, k3, k4, k5, k6, k7, k8, k9, k10, k11⟩, a3, b3, e3⟩ := dg_nodes (W := W) (Dn := Dn) (S := S) (xb := mk_bits) (mb := mo_marks) (bn := bn_links) hwf hse hways ⟨hw1, hw2, hd1, hd2, hS, rfl, rfl, rfl, hmk⟩ hB (fl_foldBits, fl_passages, fl_astray, fl_loops, fl_steps, fl_reached, fl_matchingAside, z2) (mo_leftOf, mo_wayMany, mo_wayAt, mo_bitsNow, mo_passages, mo_astray, mo_loops, mo_steps, mo_reached, mo_others, z2) rfl
  have e3 : g8 = k11 := e3
  subst e3
  have a3 : f_X5_withNodes_L14 (nI N) (nI K) gr_start gr_end gr_wayLinks (nI W) (nI Dn) mk_bits bn_links (f_X2_allNodes (nI N)) 100 fl_foldBits fl_passages fl_astray fl_loops fl_steps fl_reached fl_matchingAside z2 0 = some (g1, g2, g3, g4, g5, g6, g7, g8) := a3
  have b3 : f_X6_digest_L136 (nI N) (nI K) gr_start gr_end (nI W) (nI Dn) bn_links mo_marks 100 mo_leftOf mo_wayMany mo_wayAt mo_bitsNow mo_passages mo_astray mo_loops mo_steps mo_reached mo_others z2 0 = some (k1, k2, k3, k4, k5, k6, k7, k8, k9, k10, g8) := b3
  obtain ⟨z4, a4, b4⟩ := dg_page (c := pg_codes) hn g8
  obtain ⟨z5, a5, b5⟩ := dg_counts xx_netsRead xx_timesSent xx_passagesSent xx_astraySent xx_loopsSent (nI n) (nI N) (nI K) (nI W) (nI Dn) (nI S) bn_links z4
  refine ⟨z5, g1, g2, g3, g4, g5, g6, g7, k1, k2, k3, k4, k5, k6, k7, k8, k9, k10, z5, ?_, ?_, hI0⟩
  · unfold f_X5_digest f_X5_withNodes
    rw [a1]
    simp only [Option.bind_some]
    rw [a2]
    simp only [Option.bind_some]
    rw [a3]
    simp only [Option.bind_some]
    rw [a4]
    simp only [Option.bind_some]
    rw [a5]
    rfl
  · unfold f_X6_digest
    rw [b1]
    simp only [Option.bind_some]
    rw [b2]
    simp only [Option.bind_some]
    rw [b3]
    simp only [Option.bind_some]
    rw [b4]
    simp only [Option.bind_some]
    rw [b5]
    rfl
