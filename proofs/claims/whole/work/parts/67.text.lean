/-! the whole text -/
theorem s_empty (a1 a2 a3 a4 a5 a6 a7 a8 : Int32) (md : (Nat → Int32)) : ∃ md', f_X6_empty a1 a2 a3 a4 a5 a6 a7 a8 md = some (0, 0, 0, 0, 0, 0, 0, 0, md') ∧ ∀ r, r < 6 → md' r = -1 := by
  unfold f_X6_empty
  refine loopK2 (A_1 := Int32) (A_2 := (Nat → Int32)) (F := fun n s_1 s_2 => f_X6_empty_L42 (fun m => some (0, 0, 0, 0, 0, 0, 0, 0, m)) n s_1 s_2) (P := fun i s_1 s_2 => s_1 = nI i ∧ ∀ r, r < i → s_2 r = -1) (a := 0) (N := 6) (fuel := 2000) (i_1 := 0) (i_2 := md) ?_ (Nat.zero_le _) ?_ (by omega) ⟨rfl, fun r h => absurd h (by omega)⟩
  · rintro m y1 y2 ⟨rfl, z2⟩ e
    exact ⟨y2, by rw [e, f_X6_empty_L42, if_pos (show (6 : Int32) ≤ nI 6 by decide)], z2⟩
  · rintro m i y1 y2 - hi ⟨rfl, z2⟩
    rw [f_X6_empty_L42, if_neg (show ¬ (6 : Int32) ≤ nI i from nI_ge (b := 6) (by omega) (by decide)), inb_nI (show i < 6 by omega) (by decide), gd_true, nm_eq, nI_clamp (show i < 2 ^ 31 by omega), nI_1]
    refine ⟨_, _, rfl, rfl, fun r hr => ?_⟩
    by_cases e : r = i
    · subst e; rw [upd_s]
    · rw [upd_n _ _ e]; exact z2 r (by omega)
set_option maxHeartbeats 1000000 in
theorem j_read {n t : Nat} (hn9 : n ≤ 900) (hnt : n ≤ t) (ht9 : t ≤ 900) {tc tm : (Nat → Int32)} {bt : Nat → Nat} (h : tpB n tc tm bt) (names : Nat → Int64) (lines nums : (Nat → Int32)) (fa fp : Int32) (fl ta re ro ha bo mu lo : Int32) (ki wi ba md at_ pu be st bw bd : (Nat → Int32)) (named en at0 s0 pl0 v0 : Int32) (cd0 : Int64) (pl2 n2 wr : Int32) (w2 : Int64) :
    (∃ (R : Nat → Nat → Nat) (l : Nat) (names' : Nat → Int64) (lines' nums' : (Nat → Int32)) (fl' ta' re' ro' ha' bo' mu' lo' : Int32) (ki' wi' ba' md' at_' pu' be' st' bw' bd' : (Nat → Int32)) (named' : Int32) (c2 : (Int32 × Int32 × Int32 × Int32 × Int64)) (fl2' ta2' re2' ro2' ha2' bo2' mu2' lo2' nn2' : Int32) (ki2' wi2' ba2' md2' at2' pu2' be2' st2' bw2' bd2' : (Nat → Int32)) (name' : Nat → Int64) (sorts' nums2' : (Nat → Int32)) (m2 : (Int32 × Int32 × Int32 × Int32 × Int64)), drOK R l ∧ 1 ≤ R 0 0 ∧ drF R l fl' ta' re' ro' ha' bo' mu' lo' ki' wi' ba' md' at_' pu' be' st' bw' bd' ∧ drF R l fl2' ta2' re2' ro2' ha2' bo2' mu2' lo2' ki2' wi2' ba2' md2' at2' pu2' be2' st2' bw2' bd2' ∧ f_X5_read (nI n) tc names lines nums (nI t) fa fp fl ta re ro ha bo mu lo ki wi ba md at_ pu be st bw bd named en at0 s0 pl0 v0 cd0 = some (1, names', lines', nums', 0, 0, fp, fl', ta', re', ro', ha', bo', mu', lo', ki', wi', ba', md', at_', pu', be', st', bw', bd', named', nI n, c2) ∧ ((f_X12_goesOn tm (nI n) 0 0 pl2 n2 w2).bind fun o1 => f_X12_readAll 0 0 0 0 0 0 0 0 0 (fun _ => 0) (fun _ => 0) (fun _ => 0) (fun _ => 0) (fun _ => 0) (fun _ => 0) (fun _ => 0) (fun _ => 0) (fun _ => 0) (fun _ => 0) (fun _ => 0) (fun _ => 0) (fun _ => 0) tm (nI n) o1.1 o1.2.1 o1.2.2.1 o1.2.2.2.1 0 wr o1.2.2.2.2) = some (fl2', ta2', re2', ro2', ha2', bo2', mu2', lo2', nn2', ki2', wi2', ba2', md2', at2', pu2', be2', st2', bw2', bd2', name', sorts', nums2', m2.1, m2.2.1, m2.2.2.1, m2.2.2.2.1, 0, wr, m2.2.2.2.2)) ∨
    (∃ F q, badF F ∧ q ≤ n ∧ (∃ o, f_X5_read (nI n) tc names lines nums (nI t) fa fp fl ta re ro ha bo mu lo ki wi ba md at_ pu be st bw bd named en at0 s0 pl0 v0 cd0 = some o ∧ o.1 = 0 ∧ o.2.2.2.2.1 = 0 ∧ o.2.2.2.2.2.1 = F ∧ o.2.2.2.2.2.2.1 = nI q) ∧ (∃ o2, ((f_X12_goesOn tm (nI n) 0 0 pl2 n2 w2).bind fun o1 => f_X12_readAll 0 0 0 0 0 0 0 0 0 (fun _ => 0) (fun _ => 0) (fun _ => 0) (fun _ => 0) (fun _ => 0) (fun _ => 0) (fun _ => 0) (fun _ => 0) (fun _ => 0) (fun _ => 0) (fun _ => 0) (fun _ => 0) (fun _ => 0) tm (nI n) o1.1 o1.2.1 o1.2.2.1 o1.2.2.2.1 0 wr o1.2.2.2.2) = some o2 ∧ o2.2.2.2.2.2.2.2.2.2.2.2.2.2.2.2.2.2.2.2.2.2.2.2.2.2.2.1 = F ∧ o2.2.2.2.2.2.2.2.2.2.2.2.2.2.2.2.2.2.2.2.2.2.2.2.2.2.2.2.1 = nI q)) := by
  obtain ⟨md', emd, hmd⟩ := s_empty fl ta re ro ha bo mu lo md
  obtain ⟨p3, c3, m3, ec3, em3, ht3, hp3, hst⟩ := j_next hn9 h (Nat.zero_le n) s0 pl0 v0 cd0 0 pl2 n2 w2 (by decide)
  have hsr : SR n p3 names lines nums 0 0 0 0 0 0 0 0 ki wi ba md' at_ pu be st bw bd 0 c3 0 0 0 0 0 0 0 0 0 (fun _ => 0) (fun _ => 0) (fun _ => 0) (fun _ => 0) (fun _ => 0) (fun _ => 0) (fun _ => 0) (fun _ => 0) (fun _ => 0) (fun _ => 0) (fun _ => 0) (fun _ => 0) (fun _ => 0) m3 := by
    refine ⟨fun _ _ => 0, 0, 0, fun _ => [], ⟨by decide, by decide, by decide, by decide, by decide, fun _ => rfl, fun z => absurd z (by decide), fun r hr => absurd hr (Nat.not_lt_zero r), fun r hr => absurd hr (Nat.not_lt_zero r), fun r hr => absurd hr (Nat.not_lt_zero r), fun r hr => absurd hr (Nat.not_lt_zero r), by decide⟩, ⟨rfl, rfl, rfl, rfl, rfl, rfl, rfl, rfl, fun r hr => absurd hr (Nat.not_lt_zero r), fun r hr => absurd hr (Nat.not_lt_zero r), fun r hr => absurd hr (Nat.not_lt_zero r), fun r hr => absurd hr (Nat.not_lt_zero r), fun r hr => absurd hr (Nat.not_lt_zero r), fun r hr => absurd hr (Nat.not_lt_zero r), fun r hr => absurd hr (Nat.not_lt_zero r), fun r hr => absurd hr (Nat.not_lt_zero r), fun r hr => absurd hr (Nat.not_lt_zero r), fun r hr => absurd hr (Nat.not_lt_zero r)⟩, fun r _ hr => hmd r hr, ⟨rfl, rfl, rfl, rfl, rfl, rfl, rfl, rfl, fun r hr => absurd hr (Nat.not_lt_zero r), fun r hr => absurd hr (Nat.not_lt_zero r), fun r hr => absurd hr (Nat.not_lt_zero r), fun r hr => absurd hr (Nat.not_lt_zero r), fun r hr => absurd hr (Nat.not_lt_zero r), fun r hr => absurd hr (Nat.not_lt_zero r), fun r hr => absurd hr (Nat.not_lt_zero r), fun r hr => absurd hr (Nat.not_lt_zero r), fun r hr => absurd hr (Nat.not_lt_zero r), fun r hr => absurd hr (Nat.not_lt_zero r)⟩, rfl, rfl, rfl, fun r hr => absurd hr (Nat.not_lt_zero r), fun r hr => absurd hr (Nat.not_lt_zero r), fun r hr => absurd hr (Nat.not_lt_zero r), ht3⟩
  have hmin : (if nI t < nI n then nI t else nI n) = nI n := if_neg (nI_nlt hnt (by omega))
  have hl := j_lines hn9 h (KC := fun x2 b1 b2 b3 b4 b5 d1 d2 d3 d4 d5 d6 d7 d8 e1 e2 e3 e4 e5 e6 e7 e8 e9 e10 g1 g2 g3 g4 g5 g6 => f_X5_read_B84 x2 b1 b2 b3 0 b4 b5 d1 d2 d3 d4 d5 d6 d7 d8 e1 e2 e3 e4 e5 e6 e7 e8 e9 e10 g1 (nI n) g2 g3 g4 g5 g6) (KM := fun k_fl k_ta k_re k_ro k_ha k_bo k_mu k_lo k_nn k_ki k_wi k_ba k_md k_at k_pu k_be k_st k_bw k_bd k_na k_so k_nu k_sp k_sr k_pc k_nb k_fa k_wa k_wd => (if k_sr = 1 then (if k_re = 0 then (f_X12_flaw 6 k_sr k_pc k_fa k_wa).bind fun o6 => some (k_fl, k_ta, k_re, k_ro, k_ha, k_bo, k_mu, k_lo, k_nn, k_ki, k_wi, k_ba, k_md, k_at, k_pu, k_be, k_st, k_bw, k_bd, k_na, k_so, k_nu, k_sp, o6.1, k_pc, k_nb, o6.2.1, o6.2.2, k_wd) else some (k_fl, k_ta, k_re, k_ro, k_ha, k_bo, k_mu, k_lo, k_nn, k_ki, k_wi, k_ba, k_md, k_at, k_pu, k_be, k_st, k_bw, k_bd, k_na, k_so, k_nu, k_sp, k_sr, k_pc, k_nb, k_fa, k_wa, k_wd)) else (f_X12_flaw 1 k_sr k_pc k_fa k_wa).bind fun o7 => (if k_re = 0 then (f_X12_flaw 6 o7.1 k_pc o7.2.1 o7.2.2).bind fun o9 => some (k_fl, k_ta, k_re, k_ro, k_ha, k_bo, k_mu, k_lo, k_nn, k_ki, k_wi, k_ba, k_md, k_at, k_pu, k_be, k_st, k_bw, k_bd, k_na, k_so, k_nu, k_sp, o9.1, k_pc, k_nb, o9.2.1, o9.2.2, k_wd) else some (k_fl, k_ta, k_re, k_ro, k_ha, k_bo, k_mu, k_lo, k_nn, k_ki, k_wi, k_ba, k_md, k_at, k_pu, k_be, k_st, k_bw, k_bd, k_na, k_so, k_nu, k_sp, o7.1, k_pc, k_nb, o7.2.1, o7.2.2, k_wd)))) (fp := fp) (wr := wr) (n + 1) 0 2000 2000 p3 names lines nums 0 0 0 0 0 0 0 0 ki wi ba md' at_ pu be st bw bd 0 c3 0 0 0 0 0 0 0 0 0 (fun _ => 0) (fun _ => 0) (fun _ => 0) (fun _ => 0) (fun _ => 0) (fun _ => 0) (fun _ => 0) (fun _ => 0) (fun _ => 0) (fun _ => 0) (fun _ => 0) (fun _ => 0) (fun _ => 0) m3 hsr (fun z => by have := hst (Or.inr z); omega) (by omega) (by omega)
  have hC : f_X5_read (nI n) tc names lines nums (nI t) fa fp fl ta re ro ha bo mu lo ki wi ba md at_ pu be st bw bd named en at0 s0 pl0 v0 cd0 = ((f_X5_readLine tc names lines nums 0 fp 0 0 0 0 0 0 0 0 ki wi ba md' at_ pu be st bw bd 0 (nI n) c3.1 c3.2.1 c3.2.2.1 c3.2.2.2.1 c3.2.2.2.2).bind fun o9 => f_X5_read_L50 (fun x2 b1 b2 b3 b4 b5 d1 d2 d3 d4 d5 d6 d7 d8 e1 e2 e3 e4 e5 e6 e7 e8 e9 e10 g1 g2 g3 g4 g5 g6 => f_X5_read_B84 x2 b1 b2 b3 0 b4 b5 d1 d2 d3 d4 d5 d6 d7 d8 e1 e2 e3 e4 e5 e6 e7 e8 e9 e10 g1 (nI n) g2 g3 g4 g5 g6) tc (nI n) 2000 o9.1 (nI 0) o9.2.1 o9.2.2.1 o9.2.2.2.1 o9.2.2.2.2.1 o9.2.2.2.2.2.1 o9.2.2.2.2.2.2.1 o9.2.2.2.2.2.2.2.1 o9.2.2.2.2.2.2.2.2.1 o9.2.2.2.2.2.2.2.2.2.1 o9.2.2.2.2.2.2.2.2.2.2.1 o9.2.2.2.2.2.2.2.2.2.2.2.1 o9.2.2.2.2.2.2.2.2.2.2.2.2.1 o9.2.2.2.2.2.2.2.2.2.2.2.2.2.1 o9.2.2.2.2.2.2.2.2.2.2.2.2.2.2.1 o9.2.2.2.2.2.2.2.2.2.2.2.2.2.2.2.1 o9.2.2.2.2.2.2.2.2.2.2.2.2.2.2.2.2.1 o9.2.2.2.2.2.2.2.2.2.2.2.2.2.2.2.2.2.1 o9.2.2.2.2.2.2.2.2.2.2.2.2.2.2.2.2.2.2.1 o9.2.2.2.2.2.2.2.2.2.2.2.2.2.2.2.2.2.2.2.1 o9.2.2.2.2.2.2.2.2.2.2.2.2.2.2.2.2.2.2.2.2.1 o9.2.2.2.2.2.2.2.2.2.2.2.2.2.2.2.2.2.2.2.2.2.1 o9.2.2.2.2.2.2.2.2.2.2.2.2.2.2.2.2.2.2.2.2.2.2.1 o9.2.2.2.2.2.2.2.2.2.2.2.2.2.2.2.2.2.2.2.2.2.2.2.1 o9.2.2.2.2.2.2.2.2.2.2.2.2.2.2.2.2.2.2.2.2.2.2.2.2.1 o9.2.2.2.2.2.2.2.2.2.2.2.2.2.2.2.2.2.2.2.2.2.2.2.2.2.1 o9.2.2.2.2.2.2.2.2.2.2.2.2.2.2.2.2.2.2.2.2.2.2.2.2.2.2.1 o9.2.2.2.2.2.2.2.2.2.2.2.2.2.2.2.2.2.2.2.2.2.2.2.2.2.2.2.1 o9.2.2.2.2.2.2.2.2.2.2.2.2.2.2.2.2.2.2.2.2.2.2.2.2.2.2.2.2.1 o9.2.2.2.2.2.2.2.2.2.2.2.2.2.2.2.2.2.2.2.2.2.2.2.2.2.2.2.2.2) := by
    unfold f_X5_read
    rw [nm_eq, hmin, emd, bind_some']
    (try dsimp only)
    rw [show f_X5_next tc (nI n) 0 s0 pl0 v0 cd0 = some c3 from ec3, bind_some']
    rfl
  have hM : ((f_X12_goesOn tm (nI n) 0 0 pl2 n2 w2).bind fun o1 => f_X12_readAll 0 0 0 0 0 0 0 0 0 (fun _ => 0) (fun _ => 0) (fun _ => 0) (fun _ => 0) (fun _ => 0) (fun _ => 0) (fun _ => 0) (fun _ => 0) (fun _ => 0) (fun _ => 0) (fun _ => 0) (fun _ => 0) (fun _ => 0) tm (nI n) o1.1 o1.2.1 o1.2.2.1 o1.2.2.2.1 0 wr o1.2.2.2.2) = (f_X12_readAll_L2 (fun k_fl k_ta k_re k_ro k_ha k_bo k_mu k_lo k_nn k_ki k_wi k_ba k_md k_at k_pu k_be k_st k_bw k_bd k_na k_so k_nu k_sp k_sr k_pc k_nb k_fa k_wa k_wd => (if k_sr = 1 then (if k_re = 0 then (f_X12_flaw 6 k_sr k_pc k_fa k_wa).bind fun o6 => some (k_fl, k_ta, k_re, k_ro, k_ha, k_bo, k_mu, k_lo, k_nn, k_ki, k_wi, k_ba, k_md, k_at, k_pu, k_be, k_st, k_bw, k_bd, k_na, k_so, k_nu, k_sp, o6.1, k_pc, k_nb, o6.2.1, o6.2.2, k_wd) else some (k_fl, k_ta, k_re, k_ro, k_ha, k_bo, k_mu, k_lo, k_nn, k_ki, k_wi, k_ba, k_md, k_at, k_pu, k_be, k_st, k_bw, k_bd, k_na, k_so, k_nu, k_sp, k_sr, k_pc, k_nb, k_fa, k_wa, k_wd)) else (f_X12_flaw 1 k_sr k_pc k_fa k_wa).bind fun o7 => (if k_re = 0 then (f_X12_flaw 6 o7.1 k_pc o7.2.1 o7.2.2).bind fun o9 => some (k_fl, k_ta, k_re, k_ro, k_ha, k_bo, k_mu, k_lo, k_nn, k_ki, k_wi, k_ba, k_md, k_at, k_pu, k_be, k_st, k_bw, k_bd, k_na, k_so, k_nu, k_sp, o9.1, k_pc, k_nb, o9.2.1, o9.2.2, k_wd) else some (k_fl, k_ta, k_re, k_ro, k_ha, k_bo, k_mu, k_lo, k_nn, k_ki, k_wi, k_ba, k_md, k_at, k_pu, k_be, k_st, k_bw, k_bd, k_na, k_so, k_nu, k_sp, o7.1, k_pc, k_nb, o7.2.1, o7.2.2, k_wd)))) tm (nI n) 2000 1 0 0 0 0 0 0 0 0 0 (fun _ => 0) (fun _ => 0) (fun _ => 0) (fun _ => 0) (fun _ => 0) (fun _ => 0) (fun _ => 0) (fun _ => 0) (fun _ => 0) (fun _ => 0) (fun _ => 0) (fun _ => 0) (fun _ => 0) m3.1 m3.2.1 m3.2.2.1 m3.2.2.2.1 0 wr m3.2.2.2.2) := by
    rw [show f_X12_goesOn tm (nI n) 0 0 pl2 n2 w2 = some m3 from em3, bind_some']
    rfl
  rw [hC, hM]
  rcases hl with ⟨names', lines', nums', fl', ta', re', ro', ha', bo', mu', lo', ki', wi', ba', md', at_', pu', be', st', bw', bd', named', c2, fl2', ta2', re2', ro2', ha2', bo2', mu2', lo2', nn2', ki2', wi2', ba2', md2', at2', pu2', be2', st2', bw2', bd2', name', sorts', nums2', m2, p', hs2, hpart, eC, eM⟩ | ⟨F, q, hBd, hq, ⟨o, b1, b2, b3, eC⟩, o2, b5, b6, b7, eM⟩
  · rw [eC, eM]
    obtain ⟨R, l, c, N, hD, hF, hz, hF2, -, -, -, -, -, -, ht2⟩ := hs2
    have h5 := tkR_5 ht2
    have hre : re' = nI (R 0 0) := hF.2.2.1
    have hre2 : re2' = nI (R 0 0) := hF2.2.2.1
    have hr6 := hD.1
    obtain ⟨q, t1, t2, t3, t4, t5, t6, t7⟩ := id ht2
    have hother : ¬ c2.2.1 = 0 → ¬ m2.2.1 = 1 → (∃ F q, badF F ∧ q ≤ n ∧ (∃ o, (fun x2 b1 b2 b3 b4 b5 d1 d2 d3 d4 d5 d6 d7 d8 e1 e2 e3 e4 e5 e6 e7 e8 e9 e10 g1 g2 g3 g4 g5 g6 => f_X5_read_B84 x2 b1 b2 b3 0 b4 b5 d1 d2 d3 d4 d5 d6 d7 d8 e1 e2 e3 e4 e5 e6 e7 e8 e9 e10 g1 (nI n) g2 g3 g4 g5 g6) 1 names' lines' nums' 0 fp fl' ta' re' ro' ha' bo' mu' lo' ki' wi' ba' md' at_' pu' be' st' bw' bd' named' c2.1 c2.2.1 c2.2.2.1 c2.2.2.2.1 c2.2.2.2.2 = some o ∧ o.1 = 0 ∧ o.2.2.2.2.1 = 0 ∧ o.2.2.2.2.2.1 = F ∧ o.2.2.2.2.2.2.1 = nI q) ∧ (∃ o2, (fun k_fl k_ta k_re k_ro k_ha k_bo k_mu k_lo k_nn k_ki k_wi k_ba k_md k_at k_pu k_be k_st k_bw k_bd k_na k_so k_nu k_sp k_sr k_pc k_nb k_fa k_wa k_wd => (if k_sr = 1 then (if k_re = 0 then (f_X12_flaw 6 k_sr k_pc k_fa k_wa).bind fun o6 => some (k_fl, k_ta, k_re, k_ro, k_ha, k_bo, k_mu, k_lo, k_nn, k_ki, k_wi, k_ba, k_md, k_at, k_pu, k_be, k_st, k_bw, k_bd, k_na, k_so, k_nu, k_sp, o6.1, k_pc, k_nb, o6.2.1, o6.2.2, k_wd) else some (k_fl, k_ta, k_re, k_ro, k_ha, k_bo, k_mu, k_lo, k_nn, k_ki, k_wi, k_ba, k_md, k_at, k_pu, k_be, k_st, k_bw, k_bd, k_na, k_so, k_nu, k_sp, k_sr, k_pc, k_nb, k_fa, k_wa, k_wd)) else (f_X12_flaw 1 k_sr k_pc k_fa k_wa).bind fun o7 => (if k_re = 0 then (f_X12_flaw 6 o7.1 k_pc o7.2.1 o7.2.2).bind fun o9 => some (k_fl, k_ta, k_re, k_ro, k_ha, k_bo, k_mu, k_lo, k_nn, k_ki, k_wi, k_ba, k_md, k_at, k_pu, k_be, k_st, k_bw, k_bd, k_na, k_so, k_nu, k_sp, o9.1, k_pc, k_nb, o9.2.1, o9.2.2, k_wd) else some (k_fl, k_ta, k_re, k_ro, k_ha, k_bo, k_mu, k_lo, k_nn, k_ki, k_wi, k_ba, k_md, k_at, k_pu, k_be, k_st, k_bw, k_bd, k_na, k_so, k_nu, k_sp, o7.1, k_pc, k_nb, o7.2.1, o7.2.2, k_wd)))) fl2' ta2' re2' ro2' ha2' bo2' mu2' lo2' nn2' ki2' wi2' ba2' md2' at2' pu2' be2' st2' bw2' bd2' name' sorts' nums2' m2.1 m2.2.1 m2.2.2.1 m2.2.2.2.1 0 wr m2.2.2.2.2 = some o2 ∧ o2.2.2.2.2.2.2.2.2.2.2.2.2.2.2.2.2.2.2.2.2.2.2.2.2.2.2.1 = F ∧ o2.2.2.2.2.2.2.2.2.2.2.2.2.2.2.2.2.2.2.2.2.2.2.2.2.2.2.2.1 = nI q)) := by
      intro z1 z2
      refine ⟨1, q, ⟨1, by decide, by decide, rfl⟩, t2, ?_, ?_⟩
      · unfold f_X5_read_B84
        (try dsimp only)
        rw [if_neg one_ne, if_neg z1]
        exact ⟨_, rfl, rfl, rfl, rfl, t5⟩
      · (try dsimp only)
        rw [if_neg z2, n_flaw h5, bind_some']
        (try dsimp only)
        rw [d_flaw, bind_some']
        by_cases z : re2' = 0
        · rw [if_pos z]; exact ⟨_, rfl, rfl, t6⟩
        · rw [if_neg z]; exact ⟨_, rfl, rfl, t6⟩
    rcases t7 with ⟨a, b⟩ | ⟨l', l1, l2, a, b, -⟩ | ⟨x, x1, a, b, -⟩ | ⟨a, b⟩ | ⟨a, b⟩
    · by_cases hr0 : R 0 0 = 0
      · right
        refine ⟨6, q, ⟨6, by decide, by decide, rfl⟩, t2, ?_, ?_⟩
        · unfold f_X5_read_B84
          (try dsimp only)
          rw [if_neg one_ne, if_pos a, if_neg (show ¬ (0 : Int32) < re' by rw [hre, hr0]; decide)]
          exact ⟨_, rfl, rfl, rfl, rfl, t5⟩
        · (try dsimp only)
          rw [if_pos b, if_pos (show re2' = 0 by rw [hre2, hr0]; rfl), n_flaw h5, bind_some']
          exact ⟨_, rfl, rfl, t6⟩
      · left
        refine ⟨R, l, names', lines', nums', fl', ta', re', ro', ha', bo', mu', lo', ki', wi', ba', md', at_', pu', be', st', bw', bd', named', c2, fl2', ta2', re2', ro2', ha2', bo2', mu2', lo2', nn2', ki2', wi2', ba2', md2', at2', pu2', be2', st2', bw2', bd2', name', sorts', nums2', m2, hD, by omega, hF, hF2, ?_, ?_⟩
        · unfold f_X5_read_B84
          (try dsimp only)
          rw [if_neg one_ne, if_pos a, if_pos (show (0 : Int32) < re' by rw [hre]; exact nI_lt (a := 0) (by omega) (by omega))]
        · (try dsimp only)
          rw [if_pos b, if_neg (show ¬ re2' = 0 by rw [hre2]; exact fun z => hr0 ((nI_z (by omega)).mp z))]
    · exact Or.inr (hother (by rw [a]; decide) (by rw [b]; decide))
    · exact Or.inr (hother (by rw [a]; decide) (by rw [b]; decide))
    · exact Or.inr (hother (by rw [a]; decide) (by rw [b]; decide))
    · exact Or.inr (hother (by rw [a]; decide) (by rw [b]; decide))
  · right
    rw [eC, eM]
    refine ⟨F, q, hBd, hq, ?_, ?_⟩
    · unfold f_X5_read_B84
      (try dsimp only)
      rw [if_pos b1]
      exact ⟨_, rfl, rfl, rfl, b2, b3⟩
    · (try dsimp only)
      rw [if_neg (show ¬ o2.2.2.2.2.2.2.2.2.2.2.2.2.2.2.2.2.2.2.2.2.2.2.2.1 = 1 by rw [b5]; decide), b5, d_flaw, bind_some']
      (try dsimp only)
      rw [d_flaw, bind_some']
      by_cases z : o2.2.2.1 = 0
      · rw [if_pos z]; exact ⟨_, rfl, b6, b7⟩
      · rw [if_neg z]; exact ⟨_, rfl, b6, b7⟩
