/-! the seven lines, and none -/
set_option maxHeartbeats 400000 in
theorem j_rlRiver {e : Nat} (he : e ≤ 900) {tc tm : (Nat → Int32)} {bt : Nat → Nat} (h : tpB e tc tm bt) {p : Nat} {names : Nat → Int64} {lines nums : (Nat → Int32)} {fl ta re ro ha bo mu lo : Int32} {ki wi ba md at_ pu be st bw bd : (Nat → Int32)} {named : Int32} {ct : (Int32 × Int32 × Int32 × Int32 × Int64)} {fl2 ta2 re2 ro2 ha2 bo2 mu2 lo2 nn2 : Int32} {ki2 wi2 ba2 md2 at2 pu2 be2 st2 bw2 bd2 : (Nat → Int32)} {name : Nat → Int64} {sorts nums2 : (Nat → Int32)} {mt : (Int32 × Int32 × Int32 × Int32 × Int64)} {R : Nat → Nat → Nat} {l c : Nat} {N : Nat → List Nat} (hD : drOK R l) (hF : drF R l fl ta re ro ha bo mu lo ki wi ba md at_ pu be st bw bd) (hz : ∀ r, R 0 0 ≤ r → r < 6 → md r = -1) (hF2 : drF R l fl2 ta2 re2 ro2 ha2 bo2 mu2 lo2 ki2 wi2 ba2 md2 at2 pu2 be2 st2 bw2 bd2) (hcc : c = R 0 0 + R 0 1 + R 0 2 + R 0 3) (hnm : named = nI c) (hnm2 : nn2 = nI c) (hn : lnR c N cw names) (hm : lnR c N mw name) (hS : nmS (R 0 0) (R 0 1) c lines nums sorts nums2) (ht : tkR e p ct mt) {ol : Option (List Nat)} (hw : wdR ol ct.2.1 ct.2.2.2.2 mt.2.1 mt.2.2.2.2)  (e0 : ol = some l_river) (f fp f2 wr : Int32) :
    (∃ (names' : Nat → Int64) (lines' nums' : (Nat → Int32)) (fl' ta' re' ro' ha' bo' mu' lo' : Int32) (ki' wi' ba' md' at_' pu' be' st' bw' bd' : (Nat → Int32)) (named' : Int32) (c2 : (Int32 × Int32 × Int32 × Int32 × Int64)) (fl2' ta2' re2' ro2' ha2' bo2' mu2' lo2' nn2' : Int32) (ki2' wi2' ba2' md2' at2' pu2' be2' st2' bw2' bd2' : (Nat → Int32)) (name' : Nat → Int64) (sorts' nums2' : (Nat → Int32)) (m2 : (Int32 × Int32 × Int32 × Int32 × Int64)) (p' : Nat), f_X5_readLine tc names lines nums f fp fl ta re ro ha bo mu lo ki wi ba md at_ pu be st bw bd named (nI e) ct.1 ct.2.1 ct.2.2.1 ct.2.2.2.1 ct.2.2.2.2 = some (1, names', lines', nums', f, fp, fl', ta', re', ro', ha', bo', mu', lo', ki', wi', ba', md', at_', pu', be', st', bw', bd', named', c2) ∧ f_X12_readLine fl2 ta2 re2 ro2 ha2 bo2 mu2 lo2 nn2 ki2 wi2 ba2 md2 at2 pu2 be2 st2 bw2 bd2 name sorts nums2 tm (nI e) mt.1 mt.2.1 mt.2.2.1 mt.2.2.2.1 f2 wr mt.2.2.2.2 = some (fl2', ta2', re2', ro2', ha2', bo2', mu2', lo2', nn2', ki2', wi2', ba2', md2', at2', pu2', be2', st2', bw2', bd2', name', sorts', nums2', m2.1, m2.2.1, m2.2.2.1, m2.2.2.2.1, f2, wr, m2.2.2.2.2) ∧ p ≤ p' ∧ SR e p' names' lines' nums' fl' ta' re' ro' ha' bo' mu' lo' ki' wi' ba' md' at_' pu' be' st' bw' bd' named' c2 fl2' ta2' re2' ro2' ha2' bo2' mu2' lo2' nn2' ki2' wi2' ba2' md2' at2' pu2' be2' st2' bw2' bd2' name' sorts' nums2' m2) ∨
    (∃ F q, badF F ∧ q ≤ e ∧ (∃ o, f_X5_readLine tc names lines nums f fp fl ta re ro ha bo mu lo ki wi ba md at_ pu be st bw bd named (nI e) ct.1 ct.2.1 ct.2.2.1 ct.2.2.2.1 ct.2.2.2.2 = some o ∧ o.1 = 0 ∧ o.2.2.2.2.1 = F ∧ o.2.2.2.2.2.1 = nI q) ∧ (∃ o2, f_X12_readLine fl2 ta2 re2 ro2 ha2 bo2 mu2 lo2 nn2 ki2 wi2 ba2 md2 at2 pu2 be2 st2 bw2 bd2 name sorts nums2 tm (nI e) mt.1 mt.2.1 mt.2.2.1 mt.2.2.2.1 f2 wr mt.2.2.2.2 = some o2 ∧ o2.2.2.2.2.2.2.2.2.2.2.2.2.2.2.2.2.2.2.2.2.2.2.2.1 = 5 ∧ o2.2.2.2.2.2.2.2.2.2.2.2.2.2.2.2.2.2.2.2.2.2.2.2.2.2.2.1 = F ∧ o2.2.2.2.2.2.2.2.2.2.2.2.2.2.2.2.2.2.2.2.2.2.2.2.2.2.2.2.1 = nI q)) := by
  subst hnm; subst hnm2
  have h5 := tkR_5 ht
  obtain ⟨q, t1, t2, t3, t4, t5, t6, -⟩ := id ht
  have hline := c_lineOf hw
  obtain ⟨a1, a2, a3, a4, a5, a6, a7, a8, a9, a10, a11, a12⟩ := id hD
  obtain ⟨f1, f2', f3, f4, f5, f6, f7, f8, f9, f10, f11, f12, f13, f14, f15, f16, f17, f18⟩ := id hF
  obtain ⟨g1, g2, g3, g4, g5, g6, g7, g8, g9, g10, g11, g12, g13, g14, g15, g16, g17, g18⟩ := id hF2
  have hc24 : c ≤ 24 := by omega
  obtain ⟨pn, cn, mn, ecn, emn, htn, hpn, -⟩ := j_next he h t1 ct.2.1 ct.2.2.1 ct.2.2.2.1 ct.2.2.2.2 mt.2.1 mt.2.2.1 mt.2.2.2.1 mt.2.2.2.2 h5
  rw [← t3] at ecn
  rw [← t4] at emn
  have hl0 : lineN ol = 0 := by rw [e0]; decide
  rw [hl0] at hline
  subst f1; subst g1
  by_cases hf0 : R 0 4 = 0
  · rcases j_lineRiver he h htn emn f fp f2 wr (nI (R 0 4)) ta (nI (R 0 4)) ta2 with ⟨x, y, p', c2, m2, x1, x2, y1, y2, e1, e2, ht2, hp2⟩ | ⟨F, q', o, o2, hBd, hq', e1, b1, b2, b3, e2, b5, b6, b7⟩
    · left
      have ecl : f_X5_readLine tc names lines nums f fp (nI (R 0 4)) ta re ro ha bo mu lo ki wi ba md at_ pu be st bw bd (nI c) (nI e) ct.1 ct.2.1 ct.2.2.1 ct.2.2.2.1 ct.2.2.2.2 = some (1, names, lines, nums, f, fp, nI x, nI y, re, ro, ha, bo, mu, lo, ki, wi, ba, md, at_, pu, be, st, bw, bd, nI c, c2) := by
        unfold f_X5_readLine f_X5_readLine_B31 f_X5_readLine_B46 f_X5_isFull f_X5_readLine_B75
        rw [hline, bind_some', if_neg (show ¬ (0 : Int32) = -1 by decide), if_pos (show nI (R 0 4) ≤ 0 by rw [hf0]; decide), if_pos rfl, if_pos rfl, if_neg (show ¬ (0 : Int32) = 1 by decide), if_neg (show ¬ (0 : Int32) = 2 by decide), if_neg (show ¬ (0 : Int32) = 3 by decide), if_neg (show ¬ (0 : Int32) = 4 by decide), if_neg (show ¬ (0 : Int32) = 5 by decide), bind_some', if_pos rfl, if_pos rfl, ecn, bind_some', if_pos rfl, e1]
        rfl
      have emd : f_X12_readLine (nI (R 0 4)) ta2 re2 ro2 ha2 bo2 mu2 lo2 (nI c) ki2 wi2 ba2 md2 at2 pu2 be2 st2 bw2 bd2 name sorts nums2 tm (nI e) mt.1 mt.2.1 mt.2.2.1 mt.2.2.2.1 f2 wr mt.2.2.2.2 = some (nI x, nI y, re2, ro2, ha2, bo2, mu2, lo2, nI c, ki2, wi2, ba2, md2, at2, pu2, be2, st2, bw2, bd2, name, sorts, nums2, m2.1, m2.2.1, m2.2.2.1, m2.2.2.2.1, f2, wr, m2.2.2.2.2) := by
        unfold f_X12_readLine f_X12_readRiver
        rw [(j_isWord hw kw_river).2, bind_some', if_pos e0, if_neg one_ne, if_pos (show nI (R 0 4) ≤ 0 by rw [hf0]; decide), e2]
        rfl
      exact ⟨_, _, _, _, _, _, _, _, _, _, _, _, _, _, _, _, _, _, _, _, _, _, _, _, _, _, _, _, _, _, _, _, _, _, _, _, _, _, _, _, _, _, _, _, _, _, p', ecl, emd, by omega, uRiv R x y, l, c, N, uRiv_ok hD x1 x2 y1 y2, uRiv_F hF, hz, uRiv_F hF2, hcc, rfl, rfl, hn, hm, hS, ht2⟩
    · right
      refine ⟨F, q', hBd, hq', ?_, ?_⟩
      · unfold f_X5_readLine f_X5_readLine_B31 f_X5_readLine_B46 f_X5_isFull f_X5_readLine_B75
        rw [hline, bind_some', if_neg (show ¬ (0 : Int32) = -1 by decide), if_pos (show nI (R 0 4) ≤ 0 by rw [hf0]; decide), if_pos rfl, if_pos rfl, if_neg (show ¬ (0 : Int32) = 1 by decide), if_neg (show ¬ (0 : Int32) = 2 by decide), if_neg (show ¬ (0 : Int32) = 3 by decide), if_neg (show ¬ (0 : Int32) = 4 by decide), if_neg (show ¬ (0 : Int32) = 5 by decide), bind_some', if_pos rfl, if_pos rfl, ecn, bind_some', if_pos rfl, e1, bind_some', b1]
        exact ⟨_, rfl, rfl, b2, b3⟩
      · unfold f_X12_readLine f_X12_readRiver
        rw [(j_isWord hw kw_river).2, bind_some', if_pos e0, if_neg one_ne, if_pos (show nI (R 0 4) ≤ 0 by rw [hf0]; decide), e2, bind_some']
        exact ⟨_, rfl, b5, b6, b7⟩
  · right
    have hn0 : ¬ nI (R 0 4) ≤ 0 := nI_nle (by omega) (by omega)
    refine ⟨3, q, ⟨3, by decide, by decide, rfl⟩, t2, ?_, ?_⟩
    · unfold f_X5_readLine f_X5_readLine_B31
      rw [hline, bind_some', if_neg (show ¬ (0 : Int32) = -1 by decide), if_neg hn0, if_pos rfl, if_neg one_ne]
      exact ⟨_, rfl, rfl, rfl, t5⟩
    · unfold f_X12_readLine f_X12_readRiver f_X12_readRiver_B15
      rw [(j_isWord hw kw_river).2, bind_some', if_pos e0, if_neg one_ne, if_neg hn0, n_flaw h5, bind_some']
      (try dsimp only)
      rw [d_goesOn, bind_some']
      (try dsimp only)
      rw [d_readPart, bind_some']
      (try dsimp only)
      rw [d_readPart, bind_some']
      (try dsimp only)
      rw [if_pos rfl]
      exact ⟨_, rfl, rfl, rfl, t6⟩
set_option maxHeartbeats 400000 in
theorem j_rlReach {e : Nat} (he : e ≤ 900) {tc tm : (Nat → Int32)} {bt : Nat → Nat} (h : tpB e tc tm bt) {p : Nat} {names : Nat → Int64} {lines nums : (Nat → Int32)} {fl ta re ro ha bo mu lo : Int32} {ki wi ba md at_ pu be st bw bd : (Nat → Int32)} {named : Int32} {ct : (Int32 × Int32 × Int32 × Int32 × Int64)} {fl2 ta2 re2 ro2 ha2 bo2 mu2 lo2 nn2 : Int32} {ki2 wi2 ba2 md2 at2 pu2 be2 st2 bw2 bd2 : (Nat → Int32)} {name : Nat → Int64} {sorts nums2 : (Nat → Int32)} {mt : (Int32 × Int32 × Int32 × Int32 × Int64)} {R : Nat → Nat → Nat} {l c : Nat} {N : Nat → List Nat} (hD : drOK R l) (hF : drF R l fl ta re ro ha bo mu lo ki wi ba md at_ pu be st bw bd) (hz : ∀ r, R 0 0 ≤ r → r < 6 → md r = -1) (hF2 : drF R l fl2 ta2 re2 ro2 ha2 bo2 mu2 lo2 ki2 wi2 ba2 md2 at2 pu2 be2 st2 bw2 bd2) (hcc : c = R 0 0 + R 0 1 + R 0 2 + R 0 3) (hnm : named = nI c) (hnm2 : nn2 = nI c) (hn : lnR c N cw names) (hm : lnR c N mw name) (hS : nmS (R 0 0) (R 0 1) c lines nums sorts nums2) (ht : tkR e p ct mt) {ol : Option (List Nat)} (hw : wdR ol ct.2.1 ct.2.2.2.2 mt.2.1 mt.2.2.2.2) (e0 : ¬ ol = some l_river) (e1 : ol = some l_reach) (f fp f2 wr : Int32) :
    (∃ (names' : Nat → Int64) (lines' nums' : (Nat → Int32)) (fl' ta' re' ro' ha' bo' mu' lo' : Int32) (ki' wi' ba' md' at_' pu' be' st' bw' bd' : (Nat → Int32)) (named' : Int32) (c2 : (Int32 × Int32 × Int32 × Int32 × Int64)) (fl2' ta2' re2' ro2' ha2' bo2' mu2' lo2' nn2' : Int32) (ki2' wi2' ba2' md2' at2' pu2' be2' st2' bw2' bd2' : (Nat → Int32)) (name' : Nat → Int64) (sorts' nums2' : (Nat → Int32)) (m2 : (Int32 × Int32 × Int32 × Int32 × Int64)) (p' : Nat), f_X5_readLine tc names lines nums f fp fl ta re ro ha bo mu lo ki wi ba md at_ pu be st bw bd named (nI e) ct.1 ct.2.1 ct.2.2.1 ct.2.2.2.1 ct.2.2.2.2 = some (1, names', lines', nums', f, fp, fl', ta', re', ro', ha', bo', mu', lo', ki', wi', ba', md', at_', pu', be', st', bw', bd', named', c2) ∧ f_X12_readLine fl2 ta2 re2 ro2 ha2 bo2 mu2 lo2 nn2 ki2 wi2 ba2 md2 at2 pu2 be2 st2 bw2 bd2 name sorts nums2 tm (nI e) mt.1 mt.2.1 mt.2.2.1 mt.2.2.2.1 f2 wr mt.2.2.2.2 = some (fl2', ta2', re2', ro2', ha2', bo2', mu2', lo2', nn2', ki2', wi2', ba2', md2', at2', pu2', be2', st2', bw2', bd2', name', sorts', nums2', m2.1, m2.2.1, m2.2.2.1, m2.2.2.2.1, f2, wr, m2.2.2.2.2) ∧ p ≤ p' ∧ SR e p' names' lines' nums' fl' ta' re' ro' ha' bo' mu' lo' ki' wi' ba' md' at_' pu' be' st' bw' bd' named' c2 fl2' ta2' re2' ro2' ha2' bo2' mu2' lo2' nn2' ki2' wi2' ba2' md2' at2' pu2' be2' st2' bw2' bd2' name' sorts' nums2' m2) ∨
    (∃ F q, badF F ∧ q ≤ e ∧ (∃ o, f_X5_readLine tc names lines nums f fp fl ta re ro ha bo mu lo ki wi ba md at_ pu be st bw bd named (nI e) ct.1 ct.2.1 ct.2.2.1 ct.2.2.2.1 ct.2.2.2.2 = some o ∧ o.1 = 0 ∧ o.2.2.2.2.1 = F ∧ o.2.2.2.2.2.1 = nI q) ∧ (∃ o2, f_X12_readLine fl2 ta2 re2 ro2 ha2 bo2 mu2 lo2 nn2 ki2 wi2 ba2 md2 at2 pu2 be2 st2 bw2 bd2 name sorts nums2 tm (nI e) mt.1 mt.2.1 mt.2.2.1 mt.2.2.2.1 f2 wr mt.2.2.2.2 = some o2 ∧ o2.2.2.2.2.2.2.2.2.2.2.2.2.2.2.2.2.2.2.2.2.2.2.2.1 = 5 ∧ o2.2.2.2.2.2.2.2.2.2.2.2.2.2.2.2.2.2.2.2.2.2.2.2.2.2.2.1 = F ∧ o2.2.2.2.2.2.2.2.2.2.2.2.2.2.2.2.2.2.2.2.2.2.2.2.2.2.2.2.1 = nI q)) := by
  subst hnm; subst hnm2
  have h5 := tkR_5 ht
  obtain ⟨q, t1, t2, t3, t4, t5, t6, -⟩ := id ht
  have hline := c_lineOf hw
  obtain ⟨a1, a2, a3, a4, a5, a6, a7, a8, a9, a10, a11, a12⟩ := id hD
  obtain ⟨f1, f2', f3, f4, f5, f6, f7, f8, f9, f10, f11, f12, f13, f14, f15, f16, f17, f18⟩ := id hF
  obtain ⟨g1, g2, g3, g4, g5, g6, g7, g8, g9, g10, g11, g12, g13, g14, g15, g16, g17, g18⟩ := id hF2
  have hc24 : c ≤ 24 := by omega
  obtain ⟨pn, cn, mn, ecn, emn, htn, hpn, -⟩ := j_next he h t1 ct.2.1 ct.2.2.1 ct.2.2.2.1 ct.2.2.2.2 mt.2.1 mt.2.2.1 mt.2.2.2.1 mt.2.2.2.2 h5
  rw [← t3] at ecn
  rw [← t4] at emn
  have hlX : lineN ol = 1 := by rw [e1]; decide
  rw [hlX] at hline
  subst f1; subst g1; subst f3; subst g3
  have hfull : f_X5_isFull 1 (nI (R 0 0)) ro ha bo = some (if nI (R 0 0) < 6 then 0 else 1) := by
    unfold f_X5_isFull; rw [if_pos rfl]; split <;> rfl
  have hB := c_begin (x1 := 1) (by decide) (by decide) (tc := tc) (names := names) (lines := lines) (nums := nums) (f := f) (fp := fp) (fl := nI (R 0 4)) (ta := ta) (re := nI (R 0 0)) (ro := ro) (ha := ha) (bo := bo) (mu := mu) (lo := lo) (ki := ki) (wi := wi) (ba := ba) (md := md) (at_ := at_) (pu := pu) (be := be) (st := st) (bw := bw) (bd := bd) (named := nI c) (en := nI e) (at0 := ct.1) (s := ct.2.1) (pl := ct.2.2.1) (v := ct.2.2.2.1) (cd := ct.2.2.2.2) hline hfull a5 rfl
  have hG := m_begins (a := R 0 0) (b := 6) (F := R 0 4) (by omega) (by omega) a5 tm (nI e) mt.1 mt.2.1 mt.2.2.1 mt.2.2.2.1 f2 wr mt.2.2.2.2 h5
  by_cases hfu : R 0 0 = 6
  · right
    obtain ⟨o, eo, o1, o5, o6⟩ := hB.1 (by rw [if_neg (show ¬ nI (R 0 0) < 6 by rw [hfu]; decide)]; decide)
    obtain ⟨o2, eo2, u1, u2, u3⟩ := d_lineReach hc24 (mu := 0) (lo := 0) (re := nI (R 0 0)) (r1 := ki2) (r2 := wi2) (r3 := ba2) (r4 := md2) (name := name) (sorts := sorts) (nums2 := nums2) (hG.1 hfu)
    refine ⟨5, q, ⟨5, by decide, by decide, rfl⟩, t2, ⟨o, eo, o1, o5, o6.trans t5⟩, ?_⟩
    unfold f_X12_readLine
    rw [(j_isWord hw kw_river).2, bind_some', if_neg e0, if_pos rfl, (j_isWord hw kw_reach).2, bind_some', if_pos e1, if_neg one_ne]
    first | rw [eo2, bind_some'] | rw [show _ = some o2 from eo2, bind_some']
    exact ⟨_, rfl, u1, u2, u3.trans t6⟩
  · by_cases hf0 : R 0 4 = 0
    · right
      obtain ⟨o, eo, o1, o5, o6⟩ := hB.2.1 (by rw [if_pos (show nI (R 0 0) < 6 from nI_lt (b := 6) (by omega) (by decide))]) hf0
      obtain ⟨o2, eo2, u1, u2, u3⟩ := d_lineReach hc24 (mu := 0) (lo := 0) (re := nI (R 0 0)) (r1 := ki2) (r2 := wi2) (r3 := ba2) (r4 := md2) (name := name) (sorts := sorts) (nums2 := nums2) (hG.2.1 (by omega) hf0)
      refine ⟨6, q, ⟨6, by decide, by decide, rfl⟩, t2, ⟨o, eo, o1, o5, o6.trans t5⟩, ?_⟩
      unfold f_X12_readLine
      rw [(j_isWord hw kw_river).2, bind_some', if_neg e0, if_pos rfl, (j_isWord hw kw_reach).2, bind_some', if_pos e1, if_neg one_ne]
      first | rw [eo2, bind_some'] | rw [show _ = some o2 from eo2, bind_some']
      exact ⟨_, rfl, u1, u2, u3.trans t6⟩
    · have hbe := hG.2.2 (by omega) (by omega)
      rw [emn, bind_some'] at hbe
      have hcl := hB.2.2 (by rw [if_pos (show nI (R 0 0) < 6 from nI_lt (b := 6) (by omega) (by decide))]) (by omega)
      rcases j_lineReach he h (show c < 24 by omega) hn hm (show R 0 0 < 6 by omega) htn hbe f fp lines nums ki wi ba ki2 wi2 ba2 md2 sorts nums2 with ⟨ln, k, x, y, p', c2, m2, l1, l2, hk, x1, x2, y1, y2, E1, E2, ht2, hp2⟩ | ⟨F, q', o, o2, hBd, hq', E1, b1, b2, b3, E2, b5, b6, b7⟩
      · left
        have ecl : f_X5_readLine tc names lines nums f fp (nI (R 0 4)) ta (nI (R 0 0)) ro ha bo mu lo ki wi ba md at_ pu be st bw bd (nI c) (nI e) ct.1 ct.2.1 ct.2.2.1 ct.2.2.2.1 ct.2.2.2.2 = some (1, vp_updL names c (lN (cw ln)), upd lines c 1, upd nums c (nI (R 0 0)), f, fp, nI (R 0 4), ta, nI (R 0 0 + 1), ro, ha, bo, mu, lo, upd ki (R 0 0) (nI k), upd wi (R 0 0) (nI x), upd ba (R 0 0) (nI y), md, at_, pu, be, st, bw, bd, nI (c + 1), c2) := by
          refine Eq.trans hcl ?_
          unfold f_X5_readLine_B75
          rw [ecn, bind_some', if_neg (show ¬ (1 : Int32) = 0 by decide), if_pos rfl, E1]
          rfl
        have emd : f_X12_readLine (nI (R 0 4)) ta2 (nI (R 0 0)) ro2 ha2 bo2 mu2 lo2 (nI c) ki2 wi2 ba2 md2 at2 pu2 be2 st2 bw2 bd2 name sorts nums2 tm (nI e) mt.1 mt.2.1 mt.2.2.1 mt.2.2.2.1 f2 wr mt.2.2.2.2 = some (nI (R 0 4), ta2, nI (R 0 0 + 1), ro2, ha2, bo2, mu2, lo2, nI (c + 1), upd ki2 (R 0 0) (nI k), upd wi2 (R 0 0) (nI x), upd ba2 (R 0 0) (nI y), upd md2 (R 0 0) (-1), at2, pu2, be2, st2, bw2, bd2, vp_updL name c (lN (mw ln)), upd sorts c 0, upd nums2 c (nI (R 0 0)), m2.1, m2.2.1, m2.2.2.1, m2.2.2.2.1, f2, wr, m2.2.2.2.2) := by
          unfold f_X12_readLine
          rw [(j_isWord hw kw_river).2, bind_some', if_neg e0, if_pos rfl, (j_isWord hw kw_reach).2, bind_some', if_pos e1, if_neg one_ne, E2]
          rfl
        exact ⟨_, _, _, _, _, _, _, _, _, _, _, _, _, _, _, _, _, _, _, _, _, _, _, _, _, _, _, _, _, _, _, _, _, _, _, _, _, _, _, _, _, _, _, _, _, _, p', ecl, emd, by omega, uRea R k x y, l, c + 1, fun i => if i = c then ln else N i, uRea_ok hD (by omega) (by omega) hk x1 x2 y1 y2, uRea_F hF (hz _ (Nat.le_refl _) (by omega)) (fun _ _ => rfl), fun r hr1 hr2 => hz r (by rw [(uRea_1 R k x y).2.2.2.2] at hr1; omega) hr2, uRea_F hF2 (upd_s _ _ _) (fun i hi => upd_n _ _ (by omega)), (by rw [(uRea_1 R k x y).2.2.2.2]; show c + 1 = R 0 0 + 1 + R 0 1 + R 0 2 + R 0 3; omega), rfl, rfl, lnR_up hn l1 l2, lnR_up hm l1 l2, nmS_up hS (by rw [(uRea_1 R k x y).2.2.2.2]; omega) (Nat.le_refl _) (Or.inl ⟨rfl, rfl, R 0 0, by rw [(uRea_1 R k x y).2.2.2.2]; omega, rfl⟩), ht2⟩
      · right
        refine ⟨F, q', hBd, hq', ?_, ?_⟩
        · refine (show ∀ A B : Option (Int32 × (Nat → Int64) × (Nat → Int32) × (Nat → Int32) × Int32 × Int32 × Int32 × Int32 × Int32 × Int32 × Int32 × Int32 × Int32 × Int32 × (Nat → Int32) × (Nat → Int32) × (Nat → Int32) × (Nat → Int32) × (Nat → Int32) × (Nat → Int32) × (Nat → Int32) × (Nat → Int32) × (Nat → Int32) × (Nat → Int32) × Int32 × Int32 × Int32 × Int32 × Int32 × Int64), A = B → (∃ o, B = some o ∧ o.1 = 0 ∧ o.2.2.2.2.1 = F ∧ o.2.2.2.2.2.1 = nI q') → (∃ o, A = some o ∧ o.1 = 0 ∧ o.2.2.2.2.1 = F ∧ o.2.2.2.2.2.1 = nI q') from fun A B hAB hx => hAB ▸ hx) _ _ hcl ?_
          unfold f_X5_readLine_B75
          rw [ecn, bind_some', if_neg (show ¬ (1 : Int32) = 0 by decide), if_pos rfl, E1, bind_some', b1]
          exact ⟨_, rfl, rfl, b2, b3⟩
        · unfold f_X12_readLine
          rw [(j_isWord hw kw_river).2, bind_some', if_neg e0, if_pos rfl, (j_isWord hw kw_reach).2, bind_some', if_pos e1, if_neg one_ne, E2, bind_some']
          exact ⟨_, rfl, b5, b6, b7⟩
set_option maxHeartbeats 400000 in
theorem j_rlRope {e : Nat} (he : e ≤ 900) {tc tm : (Nat → Int32)} {bt : Nat → Nat} (h : tpB e tc tm bt) {p : Nat} {names : Nat → Int64} {lines nums : (Nat → Int32)} {fl ta re ro ha bo mu lo : Int32} {ki wi ba md at_ pu be st bw bd : (Nat → Int32)} {named : Int32} {ct : (Int32 × Int32 × Int32 × Int32 × Int64)} {fl2 ta2 re2 ro2 ha2 bo2 mu2 lo2 nn2 : Int32} {ki2 wi2 ba2 md2 at2 pu2 be2 st2 bw2 bd2 : (Nat → Int32)} {name : Nat → Int64} {sorts nums2 : (Nat → Int32)} {mt : (Int32 × Int32 × Int32 × Int32 × Int64)} {R : Nat → Nat → Nat} {l c : Nat} {N : Nat → List Nat} (hD : drOK R l) (hF : drF R l fl ta re ro ha bo mu lo ki wi ba md at_ pu be st bw bd) (hz : ∀ r, R 0 0 ≤ r → r < 6 → md r = -1) (hF2 : drF R l fl2 ta2 re2 ro2 ha2 bo2 mu2 lo2 ki2 wi2 ba2 md2 at2 pu2 be2 st2 bw2 bd2) (hcc : c = R 0 0 + R 0 1 + R 0 2 + R 0 3) (hnm : named = nI c) (hnm2 : nn2 = nI c) (hn : lnR c N cw names) (hm : lnR c N mw name) (hS : nmS (R 0 0) (R 0 1) c lines nums sorts nums2) (ht : tkR e p ct mt) {ol : Option (List Nat)} (hw : wdR ol ct.2.1 ct.2.2.2.2 mt.2.1 mt.2.2.2.2) (e0 : ¬ ol = some l_river) (e1 : ¬ ol = some l_reach) (e2 : ol = some l_rope) (f fp f2 wr : Int32) :
    (∃ (names' : Nat → Int64) (lines' nums' : (Nat → Int32)) (fl' ta' re' ro' ha' bo' mu' lo' : Int32) (ki' wi' ba' md' at_' pu' be' st' bw' bd' : (Nat → Int32)) (named' : Int32) (c2 : (Int32 × Int32 × Int32 × Int32 × Int64)) (fl2' ta2' re2' ro2' ha2' bo2' mu2' lo2' nn2' : Int32) (ki2' wi2' ba2' md2' at2' pu2' be2' st2' bw2' bd2' : (Nat → Int32)) (name' : Nat → Int64) (sorts' nums2' : (Nat → Int32)) (m2 : (Int32 × Int32 × Int32 × Int32 × Int64)) (p' : Nat), f_X5_readLine tc names lines nums f fp fl ta re ro ha bo mu lo ki wi ba md at_ pu be st bw bd named (nI e) ct.1 ct.2.1 ct.2.2.1 ct.2.2.2.1 ct.2.2.2.2 = some (1, names', lines', nums', f, fp, fl', ta', re', ro', ha', bo', mu', lo', ki', wi', ba', md', at_', pu', be', st', bw', bd', named', c2) ∧ f_X12_readLine fl2 ta2 re2 ro2 ha2 bo2 mu2 lo2 nn2 ki2 wi2 ba2 md2 at2 pu2 be2 st2 bw2 bd2 name sorts nums2 tm (nI e) mt.1 mt.2.1 mt.2.2.1 mt.2.2.2.1 f2 wr mt.2.2.2.2 = some (fl2', ta2', re2', ro2', ha2', bo2', mu2', lo2', nn2', ki2', wi2', ba2', md2', at2', pu2', be2', st2', bw2', bd2', name', sorts', nums2', m2.1, m2.2.1, m2.2.2.1, m2.2.2.2.1, f2, wr, m2.2.2.2.2) ∧ p ≤ p' ∧ SR e p' names' lines' nums' fl' ta' re' ro' ha' bo' mu' lo' ki' wi' ba' md' at_' pu' be' st' bw' bd' named' c2 fl2' ta2' re2' ro2' ha2' bo2' mu2' lo2' nn2' ki2' wi2' ba2' md2' at2' pu2' be2' st2' bw2' bd2' name' sorts' nums2' m2) ∨
    (∃ F q, badF F ∧ q ≤ e ∧ (∃ o, f_X5_readLine tc names lines nums f fp fl ta re ro ha bo mu lo ki wi ba md at_ pu be st bw bd named (nI e) ct.1 ct.2.1 ct.2.2.1 ct.2.2.2.1 ct.2.2.2.2 = some o ∧ o.1 = 0 ∧ o.2.2.2.2.1 = F ∧ o.2.2.2.2.2.1 = nI q) ∧ (∃ o2, f_X12_readLine fl2 ta2 re2 ro2 ha2 bo2 mu2 lo2 nn2 ki2 wi2 ba2 md2 at2 pu2 be2 st2 bw2 bd2 name sorts nums2 tm (nI e) mt.1 mt.2.1 mt.2.2.1 mt.2.2.2.1 f2 wr mt.2.2.2.2 = some o2 ∧ o2.2.2.2.2.2.2.2.2.2.2.2.2.2.2.2.2.2.2.2.2.2.2.2.1 = 5 ∧ o2.2.2.2.2.2.2.2.2.2.2.2.2.2.2.2.2.2.2.2.2.2.2.2.2.2.2.1 = F ∧ o2.2.2.2.2.2.2.2.2.2.2.2.2.2.2.2.2.2.2.2.2.2.2.2.2.2.2.2.1 = nI q)) := by
  subst hnm; subst hnm2
  have h5 := tkR_5 ht
  obtain ⟨q, t1, t2, t3, t4, t5, t6, -⟩ := id ht
  have hline := c_lineOf hw
  obtain ⟨a1, a2, a3, a4, a5, a6, a7, a8, a9, a10, a11, a12⟩ := id hD
  obtain ⟨f1, f2', f3, f4, f5, f6, f7, f8, f9, f10, f11, f12, f13, f14, f15, f16, f17, f18⟩ := id hF
  obtain ⟨g1, g2, g3, g4, g5, g6, g7, g8, g9, g10, g11, g12, g13, g14, g15, g16, g17, g18⟩ := id hF2
  have hc24 : c ≤ 24 := by omega
  obtain ⟨pn, cn, mn, ecn, emn, htn, hpn, -⟩ := j_next he h t1 ct.2.1 ct.2.2.1 ct.2.2.2.1 ct.2.2.2.2 mt.2.1 mt.2.2.1 mt.2.2.2.1 mt.2.2.2.2 h5
  rw [← t3] at ecn
  rw [← t4] at emn
  have hlX : lineN ol = 2 := by rw [e2]; decide
  rw [hlX] at hline
  subst f1; subst g1; subst f4; subst g4
  have hfull : f_X5_isFull 2 re (nI (R 0 1)) ha bo = some (if nI (R 0 1) < 7 then 0 else 1) := by
    unfold f_X5_isFull; rw [if_neg (show ¬ (2 : Int32) = 1 by decide), if_pos rfl]; split <;> rfl
  have hB := c_begin (x1 := 2) (by decide) (by decide) (tc := tc) (names := names) (lines := lines) (nums := nums) (f := f) (fp := fp) (fl := nI (R 0 4)) (ta := ta) (re := re) (ro := nI (R 0 1)) (ha := ha) (bo := bo) (mu := mu) (lo := lo) (ki := ki) (wi := wi) (ba := ba) (md := md) (at_ := at_) (pu := pu) (be := be) (st := st) (bw := bw) (bd := bd) (named := nI c) (en := nI e) (at0 := ct.1) (s := ct.2.1) (pl := ct.2.2.1) (v := ct.2.2.2.1) (cd := ct.2.2.2.2) hline hfull a5 rfl
  have hG := m_begins (a := R 0 1) (b := 7) (F := R 0 4) (by omega) (by omega) a5 tm (nI e) mt.1 mt.2.1 mt.2.2.1 mt.2.2.2.1 f2 wr mt.2.2.2.2 h5
  by_cases hfu : R 0 1 = 7
  · right
    obtain ⟨o, eo, o1, o5, o6⟩ := hB.1 (by rw [if_neg (show ¬ nI (R 0 1) < 7 by rw [hfu]; decide)]; decide)
    obtain ⟨o2, eo2, u1, u2, u3⟩ := d_lineRope hc24 (mu := 0) (lo := 0) (re := nI (R 0 1)) (r1 := at2) (r2 := pu2) (r3 := be2) (r4 := md2) (name := name) (sorts := sorts) (nums2 := nums2) (hG.1 hfu)
    refine ⟨5, q, ⟨5, by decide, by decide, rfl⟩, t2, ⟨o, eo, o1, o5, o6.trans t5⟩, ?_⟩
    unfold f_X12_readLine
    rw [(j_isWord hw kw_river).2, bind_some', if_neg e0, if_pos rfl, (j_isWord hw kw_reach).2, bind_some', if_neg e1, if_pos rfl, (j_isWord hw kw_rope).2, bind_some', if_pos e2, if_neg one_ne]
    first | rw [eo2, bind_some'] | rw [show _ = some o2 from eo2, bind_some']
    exact ⟨_, rfl, u1, u2, u3.trans t6⟩
  · by_cases hf0 : R 0 4 = 0
    · right
      obtain ⟨o, eo, o1, o5, o6⟩ := hB.2.1 (by rw [if_pos (show nI (R 0 1) < 7 from nI_lt (b := 7) (by omega) (by decide))]) hf0
      obtain ⟨o2, eo2, u1, u2, u3⟩ := d_lineRope hc24 (mu := 0) (lo := 0) (re := nI (R 0 1)) (r1 := at2) (r2 := pu2) (r3 := be2) (r4 := md2) (name := name) (sorts := sorts) (nums2 := nums2) (hG.2.1 (by omega) hf0)
      refine ⟨6, q, ⟨6, by decide, by decide, rfl⟩, t2, ⟨o, eo, o1, o5, o6.trans t5⟩, ?_⟩
      unfold f_X12_readLine
      rw [(j_isWord hw kw_river).2, bind_some', if_neg e0, if_pos rfl, (j_isWord hw kw_reach).2, bind_some', if_neg e1, if_pos rfl, (j_isWord hw kw_rope).2, bind_some', if_pos e2, if_neg one_ne]
      first | rw [eo2, bind_some'] | rw [show _ = some o2 from eo2, bind_some']
      exact ⟨_, rfl, u1, u2, u3.trans t6⟩
    · have hbe := hG.2.2 (by omega) (by omega)
      rw [emn, bind_some'] at hbe
      have hcl := hB.2.2 (by rw [if_pos (show nI (R 0 1) < 7 from nI_lt (b := 7) (by omega) (by decide))]) (by omega)
      rcases j_lineRope he h (show c < 24 by omega) hn hm (show R 0 1 < 7 by omega) (show R 0 0 ≤ 6 from a1) (nmS_1 hS) htn hbe f fp at_ pu be at2 pu2 be2 with ⟨ln, k, x, y, p', c2, m2, l1, l2, hk, x1, x2, y1, y2, E1, E2, ht2, hp2⟩ | ⟨F, q', o, o2, hBd, hq', E1, b1, b2, b3, E2, b5, b6, b7⟩
      · left
        have ecl : f_X5_readLine tc names lines nums f fp (nI (R 0 4)) ta re (nI (R 0 1)) ha bo mu lo ki wi ba md at_ pu be st bw bd (nI c) (nI e) ct.1 ct.2.1 ct.2.2.1 ct.2.2.2.1 ct.2.2.2.2 = some (1, vp_updL names c (lN (cw ln)), upd lines c 2, upd nums c (nI (R 0 1)), f, fp, nI (R 0 4), ta, re, nI (R 0 1 + 1), ha, bo, mu, lo, ki, wi, ba, md, upd at_ (R 0 1) (nI k), upd pu (R 0 1) (nI x), upd be (R 0 1) (nI y), st, bw, bd, nI (c + 1), c2) := by
          refine Eq.trans hcl ?_
          unfold f_X5_readLine_B75
          rw [ecn, bind_some', if_neg (show ¬ (2 : Int32) = 0 by decide), if_neg (show ¬ (2 : Int32) = 1 by decide), if_pos rfl, E1]
          rfl
        have emd : f_X12_readLine (nI (R 0 4)) ta2 re2 (nI (R 0 1)) ha2 bo2 mu2 lo2 (nI c) ki2 wi2 ba2 md2 at2 pu2 be2 st2 bw2 bd2 name sorts nums2 tm (nI e) mt.1 mt.2.1 mt.2.2.1 mt.2.2.2.1 f2 wr mt.2.2.2.2 = some (nI (R 0 4), ta2, re2, nI (R 0 1 + 1), ha2, bo2, mu2, lo2, nI (c + 1), ki2, wi2, ba2, md2, upd at2 (R 0 1) (nI k), upd pu2 (R 0 1) (nI x), upd be2 (R 0 1) (nI y), st2, bw2, bd2, vp_updL name c (lN (mw ln)), upd sorts c 1, upd nums2 c (nI (R 0 1)), m2.1, m2.2.1, m2.2.2.1, m2.2.2.2.1, f2, wr, m2.2.2.2.2) := by
          unfold f_X12_readLine
          rw [(j_isWord hw kw_river).2, bind_some', if_neg e0, if_pos rfl, (j_isWord hw kw_reach).2, bind_some', if_neg e1, if_pos rfl, (j_isWord hw kw_rope).2, bind_some', if_pos e2, if_neg one_ne, E2]
          rfl
        exact ⟨_, _, _, _, _, _, _, _, _, _, _, _, _, _, _, _, _, _, _, _, _, _, _, _, _, _, _, _, _, _, _, _, _, _, _, _, _, _, _, _, _, _, _, _, _, _, p', ecl, emd, by omega, uRop R k x y, l, c + 1, fun i => if i = c then ln else N i, uRop_ok hD (by omega) hk x1 x2 y1 y2, uRop_F hF, hz, uRop_F hF2, (by rw [(uRop_1 R k x y).2.2.2]; show c + 1 = R 0 0 + (R 0 1 + 1) + R 0 2 + R 0 3; omega), rfl, rfl, lnR_up hn l1 l2, lnR_up hm l1 l2, nmS_up hS (Nat.le_refl _) (by rw [(uRop_1 R k x y).2.2.2]; omega) (Or.inr (Or.inl ⟨rfl, rfl, R 0 1, by rw [(uRop_1 R k x y).2.2.2]; omega, rfl⟩)), ht2⟩
      · right
        refine ⟨F, q', hBd, hq', ?_, ?_⟩
        · refine (show ∀ A B : Option (Int32 × (Nat → Int64) × (Nat → Int32) × (Nat → Int32) × Int32 × Int32 × Int32 × Int32 × Int32 × Int32 × Int32 × Int32 × Int32 × Int32 × (Nat → Int32) × (Nat → Int32) × (Nat → Int32) × (Nat → Int32) × (Nat → Int32) × (Nat → Int32) × (Nat → Int32) × (Nat → Int32) × (Nat → Int32) × (Nat → Int32) × Int32 × Int32 × Int32 × Int32 × Int32 × Int64), A = B → (∃ o, B = some o ∧ o.1 = 0 ∧ o.2.2.2.2.1 = F ∧ o.2.2.2.2.2.1 = nI q') → (∃ o, A = some o ∧ o.1 = 0 ∧ o.2.2.2.2.1 = F ∧ o.2.2.2.2.2.1 = nI q') from fun A B hAB hx => hAB ▸ hx) _ _ hcl ?_
          unfold f_X5_readLine_B75
          rw [ecn, bind_some', if_neg (show ¬ (2 : Int32) = 0 by decide), if_neg (show ¬ (2 : Int32) = 1 by decide), if_pos rfl, E1, bind_some', b1]
          exact ⟨_, rfl, rfl, b2, b3⟩
        · unfold f_X12_readLine
          rw [(j_isWord hw kw_river).2, bind_some', if_neg e0, if_pos rfl, (j_isWord hw kw_reach).2, bind_some', if_neg e1, if_pos rfl, (j_isWord hw kw_rope).2, bind_some', if_pos e2, if_neg one_ne, E2, bind_some']
          exact ⟨_, rfl, b5, b6, b7⟩
set_option maxHeartbeats 400000 in
theorem j_rlLoose {e : Nat} (he : e ≤ 900) {tc tm : (Nat → Int32)} {bt : Nat → Nat} (h : tpB e tc tm bt) {p : Nat} {names : Nat → Int64} {lines nums : (Nat → Int32)} {fl ta re ro ha bo mu lo : Int32} {ki wi ba md at_ pu be st bw bd : (Nat → Int32)} {named : Int32} {ct : (Int32 × Int32 × Int32 × Int32 × Int64)} {fl2 ta2 re2 ro2 ha2 bo2 mu2 lo2 nn2 : Int32} {ki2 wi2 ba2 md2 at2 pu2 be2 st2 bw2 bd2 : (Nat → Int32)} {name : Nat → Int64} {sorts nums2 : (Nat → Int32)} {mt : (Int32 × Int32 × Int32 × Int32 × Int64)} {R : Nat → Nat → Nat} {l c : Nat} {N : Nat → List Nat} (hD : drOK R l) (hF : drF R l fl ta re ro ha bo mu lo ki wi ba md at_ pu be st bw bd) (hz : ∀ r, R 0 0 ≤ r → r < 6 → md r = -1) (hF2 : drF R l fl2 ta2 re2 ro2 ha2 bo2 mu2 lo2 ki2 wi2 ba2 md2 at2 pu2 be2 st2 bw2 bd2) (hcc : c = R 0 0 + R 0 1 + R 0 2 + R 0 3) (hnm : named = nI c) (hnm2 : nn2 = nI c) (hn : lnR c N cw names) (hm : lnR c N mw name) (hS : nmS (R 0 0) (R 0 1) c lines nums sorts nums2) (ht : tkR e p ct mt) {ol : Option (List Nat)} (hw : wdR ol ct.2.1 ct.2.2.2.2 mt.2.1 mt.2.2.2.2) (e0 : ¬ ol = some l_river) (e1 : ¬ ol = some l_reach) (e2 : ¬ ol = some l_rope) (e3 : ol = some l_loose) (f fp f2 wr : Int32) :
    (∃ (names' : Nat → Int64) (lines' nums' : (Nat → Int32)) (fl' ta' re' ro' ha' bo' mu' lo' : Int32) (ki' wi' ba' md' at_' pu' be' st' bw' bd' : (Nat → Int32)) (named' : Int32) (c2 : (Int32 × Int32 × Int32 × Int32 × Int64)) (fl2' ta2' re2' ro2' ha2' bo2' mu2' lo2' nn2' : Int32) (ki2' wi2' ba2' md2' at2' pu2' be2' st2' bw2' bd2' : (Nat → Int32)) (name' : Nat → Int64) (sorts' nums2' : (Nat → Int32)) (m2 : (Int32 × Int32 × Int32 × Int32 × Int64)) (p' : Nat), f_X5_readLine tc names lines nums f fp fl ta re ro ha bo mu lo ki wi ba md at_ pu be st bw bd named (nI e) ct.1 ct.2.1 ct.2.2.1 ct.2.2.2.1 ct.2.2.2.2 = some (1, names', lines', nums', f, fp, fl', ta', re', ro', ha', bo', mu', lo', ki', wi', ba', md', at_', pu', be', st', bw', bd', named', c2) ∧ f_X12_readLine fl2 ta2 re2 ro2 ha2 bo2 mu2 lo2 nn2 ki2 wi2 ba2 md2 at2 pu2 be2 st2 bw2 bd2 name sorts nums2 tm (nI e) mt.1 mt.2.1 mt.2.2.1 mt.2.2.2.1 f2 wr mt.2.2.2.2 = some (fl2', ta2', re2', ro2', ha2', bo2', mu2', lo2', nn2', ki2', wi2', ba2', md2', at2', pu2', be2', st2', bw2', bd2', name', sorts', nums2', m2.1, m2.2.1, m2.2.2.1, m2.2.2.2.1, f2, wr, m2.2.2.2.2) ∧ p ≤ p' ∧ SR e p' names' lines' nums' fl' ta' re' ro' ha' bo' mu' lo' ki' wi' ba' md' at_' pu' be' st' bw' bd' named' c2 fl2' ta2' re2' ro2' ha2' bo2' mu2' lo2' nn2' ki2' wi2' ba2' md2' at2' pu2' be2' st2' bw2' bd2' name' sorts' nums2' m2) ∨
    (∃ F q, badF F ∧ q ≤ e ∧ (∃ o, f_X5_readLine tc names lines nums f fp fl ta re ro ha bo mu lo ki wi ba md at_ pu be st bw bd named (nI e) ct.1 ct.2.1 ct.2.2.1 ct.2.2.2.1 ct.2.2.2.2 = some o ∧ o.1 = 0 ∧ o.2.2.2.2.1 = F ∧ o.2.2.2.2.2.1 = nI q) ∧ (∃ o2, f_X12_readLine fl2 ta2 re2 ro2 ha2 bo2 mu2 lo2 nn2 ki2 wi2 ba2 md2 at2 pu2 be2 st2 bw2 bd2 name sorts nums2 tm (nI e) mt.1 mt.2.1 mt.2.2.1 mt.2.2.2.1 f2 wr mt.2.2.2.2 = some o2 ∧ o2.2.2.2.2.2.2.2.2.2.2.2.2.2.2.2.2.2.2.2.2.2.2.2.1 = 5 ∧ o2.2.2.2.2.2.2.2.2.2.2.2.2.2.2.2.2.2.2.2.2.2.2.2.2.2.2.1 = F ∧ o2.2.2.2.2.2.2.2.2.2.2.2.2.2.2.2.2.2.2.2.2.2.2.2.2.2.2.2.1 = nI q)) := by
  subst hnm; subst hnm2
  have h5 := tkR_5 ht
  obtain ⟨q, t1, t2, t3, t4, t5, t6, -⟩ := id ht
  have hline := c_lineOf hw
  obtain ⟨a1, a2, a3, a4, a5, a6, a7, a8, a9, a10, a11, a12⟩ := id hD
  obtain ⟨f1, f2', f3, f4, f5, f6, f7, f8, f9, f10, f11, f12, f13, f14, f15, f16, f17, f18⟩ := id hF
  obtain ⟨g1, g2, g3, g4, g5, g6, g7, g8, g9, g10, g11, g12, g13, g14, g15, g16, g17, g18⟩ := id hF2
  have hc24 : c ≤ 24 := by omega
  obtain ⟨pn, cn, mn, ecn, emn, htn, hpn, -⟩ := j_next he h t1 ct.2.1 ct.2.2.1 ct.2.2.2.1 ct.2.2.2.2 mt.2.1 mt.2.2.1 mt.2.2.2.1 mt.2.2.2.2 h5
  rw [← t3] at ecn
  rw [← t4] at emn
  have hlX : lineN ol = 3 := by rw [e3]; decide
  rw [hlX] at hline
  subst f1; subst g1; subst f8; subst g8
  have hfull : f_X5_isFull 3 re ro ha bo = some 0 := by
    unfold f_X5_isFull; rw [if_neg (show ¬ (3 : Int32) = 1 by decide), if_neg (show ¬ (3 : Int32) = 2 by decide), if_pos rfl]
  have hB := c_begin (x1 := 3) (by decide) (by decide) (tc := tc) (names := names) (lines := lines) (nums := nums) (f := f) (fp := fp) (fl := nI (R 0 4)) (ta := ta) (re := re) (ro := ro) (ha := ha) (bo := bo) (mu := mu) (lo := nI l) (ki := ki) (wi := wi) (ba := ba) (md := md) (at_ := at_) (pu := pu) (be := be) (st := st) (bw := bw) (bd := bd) (named := nI c) (en := nI e) (at0 := ct.1) (s := ct.2.1) (pl := ct.2.2.1) (v := ct.2.2.2.1) (cd := ct.2.2.2.2) hline hfull a5 rfl
  have hG := m_begins (a := 0) (b := 1) (F := R 0 4) (by omega) (by omega) a5 tm (nI e) mt.1 mt.2.1 mt.2.2.1 mt.2.2.2.1 f2 wr mt.2.2.2.2 h5
  by_cases hfu : 0 = 1
  · right
    obtain ⟨o, eo, o1, o5, o6⟩ := hB.1 (by omega)
    obtain ⟨o2, eo2, u1, u2, u3⟩ := d_lineLoose hc24 (mu := 0) (lo := nI l) (re := 0) (r1 := md2) (r2 := md2) (r3 := md2) (r4 := md2) (name := name) (sorts := sorts) (nums2 := nums2) (hG.1 hfu)
    refine ⟨5, q, ⟨5, by decide, by decide, rfl⟩, t2, ⟨o, eo, o1, o5, o6.trans t5⟩, ?_⟩
    unfold f_X12_readLine
    rw [(j_isWord hw kw_river).2, bind_some', if_neg e0, if_pos rfl, (j_isWord hw kw_reach).2, bind_some', if_neg e1, if_pos rfl, (j_isWord hw kw_rope).2, bind_some', if_neg e2, if_pos rfl, (j_isWord hw kw_loose).2, bind_some', if_pos e3, if_neg one_ne]
    first | rw [eo2, bind_some'] | rw [show _ = some o2 from eo2, bind_some']
    exact ⟨_, rfl, u1, u2, u3.trans t6⟩
  · by_cases hf0 : R 0 4 = 0
    · right
      obtain ⟨o, eo, o1, o5, o6⟩ := hB.2.1 (by rfl) hf0
      obtain ⟨o2, eo2, u1, u2, u3⟩ := d_lineLoose hc24 (mu := 0) (lo := nI l) (re := 0) (r1 := md2) (r2 := md2) (r3 := md2) (r4 := md2) (name := name) (sorts := sorts) (nums2 := nums2) (hG.2.1 (by omega) hf0)
      refine ⟨6, q, ⟨6, by decide, by decide, rfl⟩, t2, ⟨o, eo, o1, o5, o6.trans t5⟩, ?_⟩
      unfold f_X12_readLine
      rw [(j_isWord hw kw_river).2, bind_some', if_neg e0, if_pos rfl, (j_isWord hw kw_reach).2, bind_some', if_neg e1, if_pos rfl, (j_isWord hw kw_rope).2, bind_some', if_neg e2, if_pos rfl, (j_isWord hw kw_loose).2, bind_some', if_pos e3, if_neg one_ne]
      first | rw [eo2, bind_some'] | rw [show _ = some o2 from eo2, bind_some']
      exact ⟨_, rfl, u1, u2, u3.trans t6⟩
    · have hbe := hG.2.2 (by omega) (by omega)
      rw [emn, bind_some'] at hbe
      have hcl := hB.2.2 (by rfl) (by omega)
      rcases j_lineLoose he h hc24 hn hm (show R 0 1 ≤ 7 from a2) a12 (nmS_2 hS) htn hbe f fp with ⟨k, p', c2, m2, hk, E1, E2, ht2, hp2⟩ | ⟨F, q', o, o2, hBd, hq', E1, b1, b2, b3, E2, b5, b6, b7⟩
      · left
        have ecl : f_X5_readLine tc names lines nums f fp (nI (R 0 4)) ta re ro ha bo mu (nI l) ki wi ba md at_ pu be st bw bd (nI c) (nI e) ct.1 ct.2.1 ct.2.2.1 ct.2.2.2.1 ct.2.2.2.2 = some (1, names, lines, nums, f, fp, nI (R 0 4), ta, re, ro, ha, bo, mu, nI (l ||| 2 ^ k), ki, wi, ba, md, at_, pu, be, st, bw, bd, nI c, c2) := by
          refine Eq.trans hcl ?_
          unfold f_X5_readLine_B75
          rw [ecn, bind_some', if_neg (show ¬ (3 : Int32) = 0 by decide), if_neg (show ¬ (3 : Int32) = 1 by decide), if_neg (show ¬ (3 : Int32) = 2 by decide), if_pos rfl, E1]
          rfl
        have emd : f_X12_readLine (nI (R 0 4)) ta2 re2 ro2 ha2 bo2 mu2 (nI l) (nI c) ki2 wi2 ba2 md2 at2 pu2 be2 st2 bw2 bd2 name sorts nums2 tm (nI e) mt.1 mt.2.1 mt.2.2.1 mt.2.2.2.1 f2 wr mt.2.2.2.2 = some (nI (R 0 4), ta2, re2, ro2, ha2, bo2, mu2, nI (l ||| 2 ^ k), nI c, ki2, wi2, ba2, md2, at2, pu2, be2, st2, bw2, bd2, name, sorts, nums2, m2.1, m2.2.1, m2.2.2.1, m2.2.2.2.1, f2, wr, m2.2.2.2.2) := by
          unfold f_X12_readLine
          rw [(j_isWord hw kw_river).2, bind_some', if_neg e0, if_pos rfl, (j_isWord hw kw_reach).2, bind_some', if_neg e1, if_pos rfl, (j_isWord hw kw_rope).2, bind_some', if_neg e2, if_pos rfl, (j_isWord hw kw_loose).2, bind_some', if_pos e3, if_neg one_ne, E2]
          rfl
        exact ⟨_, _, _, _, _, _, _, _, _, _, _, _, _, _, _, _, _, _, _, _, _, _, _, _, _, _, _, _, _, _, _, _, _, _, _, _, _, _, _, _, _, _, _, _, _, _, p', ecl, emd, by omega, R, l ||| 2 ^ k, c, N, loose_ok hD hk, loose_F hF, hz, loose_F hF2, hcc, rfl, rfl, hn, hm, hS, ht2⟩
      · right
        refine ⟨F, q', hBd, hq', ?_, ?_⟩
        · refine (show ∀ A B : Option (Int32 × (Nat → Int64) × (Nat → Int32) × (Nat → Int32) × Int32 × Int32 × Int32 × Int32 × Int32 × Int32 × Int32 × Int32 × Int32 × Int32 × (Nat → Int32) × (Nat → Int32) × (Nat → Int32) × (Nat → Int32) × (Nat → Int32) × (Nat → Int32) × (Nat → Int32) × (Nat → Int32) × (Nat → Int32) × (Nat → Int32) × Int32 × Int32 × Int32 × Int32 × Int32 × Int64), A = B → (∃ o, B = some o ∧ o.1 = 0 ∧ o.2.2.2.2.1 = F ∧ o.2.2.2.2.2.1 = nI q') → (∃ o, A = some o ∧ o.1 = 0 ∧ o.2.2.2.2.1 = F ∧ o.2.2.2.2.2.1 = nI q') from fun A B hAB hx => hAB ▸ hx) _ _ hcl ?_
          unfold f_X5_readLine_B75
          rw [ecn, bind_some', if_neg (show ¬ (3 : Int32) = 0 by decide), if_neg (show ¬ (3 : Int32) = 1 by decide), if_neg (show ¬ (3 : Int32) = 2 by decide), if_pos rfl, E1, bind_some', b1]
          exact ⟨_, rfl, rfl, b2, b3⟩
        · unfold f_X12_readLine
          rw [(j_isWord hw kw_river).2, bind_some', if_neg e0, if_pos rfl, (j_isWord hw kw_reach).2, bind_some', if_neg e1, if_pos rfl, (j_isWord hw kw_rope).2, bind_some', if_neg e2, if_pos rfl, (j_isWord hw kw_loose).2, bind_some', if_pos e3, if_neg one_ne, E2, bind_some']
          exact ⟨_, rfl, b5, b6, b7⟩
set_option maxHeartbeats 400000 in
theorem j_rlHand {e : Nat} (he : e ≤ 900) {tc tm : (Nat → Int32)} {bt : Nat → Nat} (h : tpB e tc tm bt) {p : Nat} {names : Nat → Int64} {lines nums : (Nat → Int32)} {fl ta re ro ha bo mu lo : Int32} {ki wi ba md at_ pu be st bw bd : (Nat → Int32)} {named : Int32} {ct : (Int32 × Int32 × Int32 × Int32 × Int64)} {fl2 ta2 re2 ro2 ha2 bo2 mu2 lo2 nn2 : Int32} {ki2 wi2 ba2 md2 at2 pu2 be2 st2 bw2 bd2 : (Nat → Int32)} {name : Nat → Int64} {sorts nums2 : (Nat → Int32)} {mt : (Int32 × Int32 × Int32 × Int32 × Int64)} {R : Nat → Nat → Nat} {l c : Nat} {N : Nat → List Nat} (hD : drOK R l) (hF : drF R l fl ta re ro ha bo mu lo ki wi ba md at_ pu be st bw bd) (hz : ∀ r, R 0 0 ≤ r → r < 6 → md r = -1) (hF2 : drF R l fl2 ta2 re2 ro2 ha2 bo2 mu2 lo2 ki2 wi2 ba2 md2 at2 pu2 be2 st2 bw2 bd2) (hcc : c = R 0 0 + R 0 1 + R 0 2 + R 0 3) (hnm : named = nI c) (hnm2 : nn2 = nI c) (hn : lnR c N cw names) (hm : lnR c N mw name) (hS : nmS (R 0 0) (R 0 1) c lines nums sorts nums2) (ht : tkR e p ct mt) {ol : Option (List Nat)} (hw : wdR ol ct.2.1 ct.2.2.2.2 mt.2.1 mt.2.2.2.2) (e0 : ¬ ol = some l_river) (e1 : ¬ ol = some l_reach) (e2 : ¬ ol = some l_rope) (e3 : ¬ ol = some l_loose) (e4 : ol = some l_hand) (f fp f2 wr : Int32) :
    (∃ (names' : Nat → Int64) (lines' nums' : (Nat → Int32)) (fl' ta' re' ro' ha' bo' mu' lo' : Int32) (ki' wi' ba' md' at_' pu' be' st' bw' bd' : (Nat → Int32)) (named' : Int32) (c2 : (Int32 × Int32 × Int32 × Int32 × Int64)) (fl2' ta2' re2' ro2' ha2' bo2' mu2' lo2' nn2' : Int32) (ki2' wi2' ba2' md2' at2' pu2' be2' st2' bw2' bd2' : (Nat → Int32)) (name' : Nat → Int64) (sorts' nums2' : (Nat → Int32)) (m2 : (Int32 × Int32 × Int32 × Int32 × Int64)) (p' : Nat), f_X5_readLine tc names lines nums f fp fl ta re ro ha bo mu lo ki wi ba md at_ pu be st bw bd named (nI e) ct.1 ct.2.1 ct.2.2.1 ct.2.2.2.1 ct.2.2.2.2 = some (1, names', lines', nums', f, fp, fl', ta', re', ro', ha', bo', mu', lo', ki', wi', ba', md', at_', pu', be', st', bw', bd', named', c2) ∧ f_X12_readLine fl2 ta2 re2 ro2 ha2 bo2 mu2 lo2 nn2 ki2 wi2 ba2 md2 at2 pu2 be2 st2 bw2 bd2 name sorts nums2 tm (nI e) mt.1 mt.2.1 mt.2.2.1 mt.2.2.2.1 f2 wr mt.2.2.2.2 = some (fl2', ta2', re2', ro2', ha2', bo2', mu2', lo2', nn2', ki2', wi2', ba2', md2', at2', pu2', be2', st2', bw2', bd2', name', sorts', nums2', m2.1, m2.2.1, m2.2.2.1, m2.2.2.2.1, f2, wr, m2.2.2.2.2) ∧ p ≤ p' ∧ SR e p' names' lines' nums' fl' ta' re' ro' ha' bo' mu' lo' ki' wi' ba' md' at_' pu' be' st' bw' bd' named' c2 fl2' ta2' re2' ro2' ha2' bo2' mu2' lo2' nn2' ki2' wi2' ba2' md2' at2' pu2' be2' st2' bw2' bd2' name' sorts' nums2' m2) ∨
    (∃ F q, badF F ∧ q ≤ e ∧ (∃ o, f_X5_readLine tc names lines nums f fp fl ta re ro ha bo mu lo ki wi ba md at_ pu be st bw bd named (nI e) ct.1 ct.2.1 ct.2.2.1 ct.2.2.2.1 ct.2.2.2.2 = some o ∧ o.1 = 0 ∧ o.2.2.2.2.1 = F ∧ o.2.2.2.2.2.1 = nI q) ∧ (∃ o2, f_X12_readLine fl2 ta2 re2 ro2 ha2 bo2 mu2 lo2 nn2 ki2 wi2 ba2 md2 at2 pu2 be2 st2 bw2 bd2 name sorts nums2 tm (nI e) mt.1 mt.2.1 mt.2.2.1 mt.2.2.2.1 f2 wr mt.2.2.2.2 = some o2 ∧ o2.2.2.2.2.2.2.2.2.2.2.2.2.2.2.2.2.2.2.2.2.2.2.2.1 = 5 ∧ o2.2.2.2.2.2.2.2.2.2.2.2.2.2.2.2.2.2.2.2.2.2.2.2.2.2.2.1 = F ∧ o2.2.2.2.2.2.2.2.2.2.2.2.2.2.2.2.2.2.2.2.2.2.2.2.2.2.2.2.1 = nI q)) := by
  subst hnm; subst hnm2
  have h5 := tkR_5 ht
  obtain ⟨q, t1, t2, t3, t4, t5, t6, -⟩ := id ht
  have hline := c_lineOf hw
  obtain ⟨a1, a2, a3, a4, a5, a6, a7, a8, a9, a10, a11, a12⟩ := id hD
  obtain ⟨f1, f2', f3, f4, f5, f6, f7, f8, f9, f10, f11, f12, f13, f14, f15, f16, f17, f18⟩ := id hF
  obtain ⟨g1, g2, g3, g4, g5, g6, g7, g8, g9, g10, g11, g12, g13, g14, g15, g16, g17, g18⟩ := id hF2
  have hc24 : c ≤ 24 := by omega
  obtain ⟨pn, cn, mn, ecn, emn, htn, hpn, -⟩ := j_next he h t1 ct.2.1 ct.2.2.1 ct.2.2.2.1 ct.2.2.2.2 mt.2.1 mt.2.2.1 mt.2.2.2.1 mt.2.2.2.2 h5
  rw [← t3] at ecn
  rw [← t4] at emn
  have hlX : lineN ol = 4 := by rw [e4]; decide
  rw [hlX] at hline
  subst f1; subst g1; subst f5; subst g5
  have hfull : f_X5_isFull 4 re ro (nI (R 0 2)) bo = some (if nI (R 0 2) < 6 then 0 else 1) := by
    unfold f_X5_isFull; rw [if_neg (show ¬ (4 : Int32) = 1 by decide), if_neg (show ¬ (4 : Int32) = 2 by decide), if_neg (show ¬ (4 : Int32) = 3 by decide), if_pos rfl]; split <;> rfl
  have hB := c_begin (x1 := 4) (by decide) (by decide) (tc := tc) (names := names) (lines := lines) (nums := nums) (f := f) (fp := fp) (fl := nI (R 0 4)) (ta := ta) (re := re) (ro := ro) (ha := nI (R 0 2)) (bo := bo) (mu := mu) (lo := lo) (ki := ki) (wi := wi) (ba := ba) (md := md) (at_ := at_) (pu := pu) (be := be) (st := st) (bw := bw) (bd := bd) (named := nI c) (en := nI e) (at0 := ct.1) (s := ct.2.1) (pl := ct.2.2.1) (v := ct.2.2.2.1) (cd := ct.2.2.2.2) hline hfull a5 rfl
  have hG := m_begins (a := R 0 2) (b := 6) (F := R 0 4) (by omega) (by omega) a5 tm (nI e) mt.1 mt.2.1 mt.2.2.1 mt.2.2.2.1 f2 wr mt.2.2.2.2 h5
  by_cases hfu : R 0 2 = 6
  · right
    obtain ⟨o, eo, o1, o5, o6⟩ := hB.1 (by rw [if_neg (show ¬ nI (R 0 2) < 6 by rw [hfu]; decide)]; decide)
    obtain ⟨o2, eo2, u1, u2, u3⟩ := d_lineHand hc24 (mu := 0) (lo := 0) (re := nI (R 0 2)) (r1 := st2) (r2 := md2) (r3 := md2) (r4 := md2) (name := name) (sorts := sorts) (nums2 := nums2) (hG.1 hfu)
    refine ⟨5, q, ⟨5, by decide, by decide, rfl⟩, t2, ⟨o, eo, o1, o5, o6.trans t5⟩, ?_⟩
    unfold f_X12_readLine
    rw [(j_isWord hw kw_river).2, bind_some', if_neg e0, if_pos rfl, (j_isWord hw kw_reach).2, bind_some', if_neg e1, if_pos rfl, (j_isWord hw kw_rope).2, bind_some', if_neg e2, if_pos rfl, (j_isWord hw kw_loose).2, bind_some', if_neg e3, if_pos rfl, (j_isWord hw kw_hand).2, bind_some', if_pos e4, if_neg one_ne]
    first | rw [eo2, bind_some'] | rw [show _ = some o2 from eo2, bind_some']
    exact ⟨_, rfl, u1, u2, u3.trans t6⟩
  · by_cases hf0 : R 0 4 = 0
    · right
      obtain ⟨o, eo, o1, o5, o6⟩ := hB.2.1 (by rw [if_pos (show nI (R 0 2) < 6 from nI_lt (b := 6) (by omega) (by decide))]) hf0
      obtain ⟨o2, eo2, u1, u2, u3⟩ := d_lineHand hc24 (mu := 0) (lo := 0) (re := nI (R 0 2)) (r1 := st2) (r2 := md2) (r3 := md2) (r4 := md2) (name := name) (sorts := sorts) (nums2 := nums2) (hG.2.1 (by omega) hf0)
      refine ⟨6, q, ⟨6, by decide, by decide, rfl⟩, t2, ⟨o, eo, o1, o5, o6.trans t5⟩, ?_⟩
      unfold f_X12_readLine
      rw [(j_isWord hw kw_river).2, bind_some', if_neg e0, if_pos rfl, (j_isWord hw kw_reach).2, bind_some', if_neg e1, if_pos rfl, (j_isWord hw kw_rope).2, bind_some', if_neg e2, if_pos rfl, (j_isWord hw kw_loose).2, bind_some', if_neg e3, if_pos rfl, (j_isWord hw kw_hand).2, bind_some', if_pos e4, if_neg one_ne]
      first | rw [eo2, bind_some'] | rw [show _ = some o2 from eo2, bind_some']
      exact ⟨_, rfl, u1, u2, u3.trans t6⟩
    · have hbe := hG.2.2 (by omega) (by omega)
      rw [emn, bind_some'] at hbe
      have hcl := hB.2.2 (by rw [if_pos (show nI (R 0 2) < 6 from nI_lt (b := 6) (by omega) (by decide))]) (by omega)
      rcases j_lineHand he h (show c < 24 by omega) hn hm (show R 0 2 < 6 by omega) htn hbe f fp lines nums st st2 sorts nums2 with ⟨ln, x, p', c2, m2, l1, l2, x1, x2, E1, E2, ht2, hp2⟩ | ⟨F, q', o, o2, hBd, hq', E1, b1, b2, b3, E2, b5, b6, b7⟩
      · left
        have ecl : f_X5_readLine tc names lines nums f fp (nI (R 0 4)) ta re ro (nI (R 0 2)) bo mu lo ki wi ba md at_ pu be st bw bd (nI c) (nI e) ct.1 ct.2.1 ct.2.2.1 ct.2.2.2.1 ct.2.2.2.2 = some (1, vp_updL names c (lN (cw ln)), upd lines c 4, upd nums c (nI (R 0 2)), f, fp, nI (R 0 4), ta, re, ro, nI (R 0 2 + 1), bo, mu, lo, ki, wi, ba, md, at_, pu, be, upd st (R 0 2) (nI x), bw, bd, nI (c + 1), c2) := by
          refine Eq.trans hcl ?_
          unfold f_X5_readLine_B75
          rw [ecn, bind_some', if_neg (show ¬ (4 : Int32) = 0 by decide), if_neg (show ¬ (4 : Int32) = 1 by decide), if_neg (show ¬ (4 : Int32) = 2 by decide), if_neg (show ¬ (4 : Int32) = 3 by decide), if_pos rfl, E1]
          rfl
        have emd : f_X12_readLine (nI (R 0 4)) ta2 re2 ro2 (nI (R 0 2)) bo2 mu2 lo2 (nI c) ki2 wi2 ba2 md2 at2 pu2 be2 st2 bw2 bd2 name sorts nums2 tm (nI e) mt.1 mt.2.1 mt.2.2.1 mt.2.2.2.1 f2 wr mt.2.2.2.2 = some (nI (R 0 4), ta2, re2, ro2, nI (R 0 2 + 1), bo2, mu2, lo2, nI (c + 1), ki2, wi2, ba2, md2, at2, pu2, be2, upd st2 (R 0 2) (nI x), bw2, bd2, vp_updL name c (lN (mw ln)), upd sorts c 2, upd nums2 c (nI (R 0 2)), m2.1, m2.2.1, m2.2.2.1, m2.2.2.2.1, f2, wr, m2.2.2.2.2) := by
          unfold f_X12_readLine
          rw [(j_isWord hw kw_river).2, bind_some', if_neg e0, if_pos rfl, (j_isWord hw kw_reach).2, bind_some', if_neg e1, if_pos rfl, (j_isWord hw kw_rope).2, bind_some', if_neg e2, if_pos rfl, (j_isWord hw kw_loose).2, bind_some', if_neg e3, if_pos rfl, (j_isWord hw kw_hand).2, bind_some', if_pos e4, if_neg one_ne, E2]
          rfl
        exact ⟨_, _, _, _, _, _, _, _, _, _, _, _, _, _, _, _, _, _, _, _, _, _, _, _, _, _, _, _, _, _, _, _, _, _, _, _, _, _, _, _, _, _, _, _, _, _, p', ecl, emd, by omega, uHan R x, l, c + 1, fun i => if i = c then ln else N i, uHan_ok hD (by omega) x1 x2, uHan_F hF, hz, uHan_F hF2, (by rw [(uHan_1 R x).2]; show c + 1 = R 0 0 + R 0 1 + (R 0 2 + 1) + R 0 3; omega), rfl, rfl, lnR_up hn l1 l2, lnR_up hm l1 l2, nmS_up hS (Nat.le_refl _) (Nat.le_refl _) (Or.inr (Or.inr ⟨by decide, by decide, rfl⟩)), ht2⟩
      · right
        refine ⟨F, q', hBd, hq', ?_, ?_⟩
        · refine (show ∀ A B : Option (Int32 × (Nat → Int64) × (Nat → Int32) × (Nat → Int32) × Int32 × Int32 × Int32 × Int32 × Int32 × Int32 × Int32 × Int32 × Int32 × Int32 × (Nat → Int32) × (Nat → Int32) × (Nat → Int32) × (Nat → Int32) × (Nat → Int32) × (Nat → Int32) × (Nat → Int32) × (Nat → Int32) × (Nat → Int32) × (Nat → Int32) × Int32 × Int32 × Int32 × Int32 × Int32 × Int64), A = B → (∃ o, B = some o ∧ o.1 = 0 ∧ o.2.2.2.2.1 = F ∧ o.2.2.2.2.2.1 = nI q') → (∃ o, A = some o ∧ o.1 = 0 ∧ o.2.2.2.2.1 = F ∧ o.2.2.2.2.2.1 = nI q') from fun A B hAB hx => hAB ▸ hx) _ _ hcl ?_
          unfold f_X5_readLine_B75
          rw [ecn, bind_some', if_neg (show ¬ (4 : Int32) = 0 by decide), if_neg (show ¬ (4 : Int32) = 1 by decide), if_neg (show ¬ (4 : Int32) = 2 by decide), if_neg (show ¬ (4 : Int32) = 3 by decide), if_pos rfl, E1, bind_some', b1]
          exact ⟨_, rfl, rfl, b2, b3⟩
        · unfold f_X12_readLine
          rw [(j_isWord hw kw_river).2, bind_some', if_neg e0, if_pos rfl, (j_isWord hw kw_reach).2, bind_some', if_neg e1, if_pos rfl, (j_isWord hw kw_rope).2, bind_some', if_neg e2, if_pos rfl, (j_isWord hw kw_loose).2, bind_some', if_neg e3, if_pos rfl, (j_isWord hw kw_hand).2, bind_some', if_pos e4, if_neg one_ne, E2, bind_some']
          exact ⟨_, rfl, b5, b6, b7⟩
set_option maxHeartbeats 400000 in
theorem j_rlBoat {e : Nat} (he : e ≤ 900) {tc tm : (Nat → Int32)} {bt : Nat → Nat} (h : tpB e tc tm bt) {p : Nat} {names : Nat → Int64} {lines nums : (Nat → Int32)} {fl ta re ro ha bo mu lo : Int32} {ki wi ba md at_ pu be st bw bd : (Nat → Int32)} {named : Int32} {ct : (Int32 × Int32 × Int32 × Int32 × Int64)} {fl2 ta2 re2 ro2 ha2 bo2 mu2 lo2 nn2 : Int32} {ki2 wi2 ba2 md2 at2 pu2 be2 st2 bw2 bd2 : (Nat → Int32)} {name : Nat → Int64} {sorts nums2 : (Nat → Int32)} {mt : (Int32 × Int32 × Int32 × Int32 × Int64)} {R : Nat → Nat → Nat} {l c : Nat} {N : Nat → List Nat} (hD : drOK R l) (hF : drF R l fl ta re ro ha bo mu lo ki wi ba md at_ pu be st bw bd) (hz : ∀ r, R 0 0 ≤ r → r < 6 → md r = -1) (hF2 : drF R l fl2 ta2 re2 ro2 ha2 bo2 mu2 lo2 ki2 wi2 ba2 md2 at2 pu2 be2 st2 bw2 bd2) (hcc : c = R 0 0 + R 0 1 + R 0 2 + R 0 3) (hnm : named = nI c) (hnm2 : nn2 = nI c) (hn : lnR c N cw names) (hm : lnR c N mw name) (hS : nmS (R 0 0) (R 0 1) c lines nums sorts nums2) (ht : tkR e p ct mt) {ol : Option (List Nat)} (hw : wdR ol ct.2.1 ct.2.2.2.2 mt.2.1 mt.2.2.2.2) (e0 : ¬ ol = some l_river) (e1 : ¬ ol = some l_reach) (e2 : ¬ ol = some l_rope) (e3 : ¬ ol = some l_loose) (e4 : ¬ ol = some l_hand) (e5 : ol = some l_boat) (f fp f2 wr : Int32) :
    (∃ (names' : Nat → Int64) (lines' nums' : (Nat → Int32)) (fl' ta' re' ro' ha' bo' mu' lo' : Int32) (ki' wi' ba' md' at_' pu' be' st' bw' bd' : (Nat → Int32)) (named' : Int32) (c2 : (Int32 × Int32 × Int32 × Int32 × Int64)) (fl2' ta2' re2' ro2' ha2' bo2' mu2' lo2' nn2' : Int32) (ki2' wi2' ba2' md2' at2' pu2' be2' st2' bw2' bd2' : (Nat → Int32)) (name' : Nat → Int64) (sorts' nums2' : (Nat → Int32)) (m2 : (Int32 × Int32 × Int32 × Int32 × Int64)) (p' : Nat), f_X5_readLine tc names lines nums f fp fl ta re ro ha bo mu lo ki wi ba md at_ pu be st bw bd named (nI e) ct.1 ct.2.1 ct.2.2.1 ct.2.2.2.1 ct.2.2.2.2 = some (1, names', lines', nums', f, fp, fl', ta', re', ro', ha', bo', mu', lo', ki', wi', ba', md', at_', pu', be', st', bw', bd', named', c2) ∧ f_X12_readLine fl2 ta2 re2 ro2 ha2 bo2 mu2 lo2 nn2 ki2 wi2 ba2 md2 at2 pu2 be2 st2 bw2 bd2 name sorts nums2 tm (nI e) mt.1 mt.2.1 mt.2.2.1 mt.2.2.2.1 f2 wr mt.2.2.2.2 = some (fl2', ta2', re2', ro2', ha2', bo2', mu2', lo2', nn2', ki2', wi2', ba2', md2', at2', pu2', be2', st2', bw2', bd2', name', sorts', nums2', m2.1, m2.2.1, m2.2.2.1, m2.2.2.2.1, f2, wr, m2.2.2.2.2) ∧ p ≤ p' ∧ SR e p' names' lines' nums' fl' ta' re' ro' ha' bo' mu' lo' ki' wi' ba' md' at_' pu' be' st' bw' bd' named' c2 fl2' ta2' re2' ro2' ha2' bo2' mu2' lo2' nn2' ki2' wi2' ba2' md2' at2' pu2' be2' st2' bw2' bd2' name' sorts' nums2' m2) ∨
    (∃ F q, badF F ∧ q ≤ e ∧ (∃ o, f_X5_readLine tc names lines nums f fp fl ta re ro ha bo mu lo ki wi ba md at_ pu be st bw bd named (nI e) ct.1 ct.2.1 ct.2.2.1 ct.2.2.2.1 ct.2.2.2.2 = some o ∧ o.1 = 0 ∧ o.2.2.2.2.1 = F ∧ o.2.2.2.2.2.1 = nI q) ∧ (∃ o2, f_X12_readLine fl2 ta2 re2 ro2 ha2 bo2 mu2 lo2 nn2 ki2 wi2 ba2 md2 at2 pu2 be2 st2 bw2 bd2 name sorts nums2 tm (nI e) mt.1 mt.2.1 mt.2.2.1 mt.2.2.2.1 f2 wr mt.2.2.2.2 = some o2 ∧ o2.2.2.2.2.2.2.2.2.2.2.2.2.2.2.2.2.2.2.2.2.2.2.2.1 = 5 ∧ o2.2.2.2.2.2.2.2.2.2.2.2.2.2.2.2.2.2.2.2.2.2.2.2.2.2.2.1 = F ∧ o2.2.2.2.2.2.2.2.2.2.2.2.2.2.2.2.2.2.2.2.2.2.2.2.2.2.2.2.1 = nI q)) := by
  subst hnm; subst hnm2
  have h5 := tkR_5 ht
  obtain ⟨q, t1, t2, t3, t4, t5, t6, -⟩ := id ht
  have hline := c_lineOf hw
  obtain ⟨a1, a2, a3, a4, a5, a6, a7, a8, a9, a10, a11, a12⟩ := id hD
  obtain ⟨f1, f2', f3, f4, f5, f6, f7, f8, f9, f10, f11, f12, f13, f14, f15, f16, f17, f18⟩ := id hF
  obtain ⟨g1, g2, g3, g4, g5, g6, g7, g8, g9, g10, g11, g12, g13, g14, g15, g16, g17, g18⟩ := id hF2
  have hc24 : c ≤ 24 := by omega
  obtain ⟨pn, cn, mn, ecn, emn, htn, hpn, -⟩ := j_next he h t1 ct.2.1 ct.2.2.1 ct.2.2.2.1 ct.2.2.2.2 mt.2.1 mt.2.2.1 mt.2.2.2.1 mt.2.2.2.2 h5
  rw [← t3] at ecn
  rw [← t4] at emn
  have hlX : lineN ol = 5 := by rw [e5]; decide
  rw [hlX] at hline
  subst f1; subst g1; subst f6; subst g6
  have hfull : f_X5_isFull 5 re ro ha (nI (R 0 3)) = some (if nI (R 0 3) < 5 then 0 else 1) := by
    unfold f_X5_isFull; rw [if_neg (show ¬ (5 : Int32) = 1 by decide), if_neg (show ¬ (5 : Int32) = 2 by decide), if_neg (show ¬ (5 : Int32) = 3 by decide), if_neg (show ¬ (5 : Int32) = 4 by decide), if_pos rfl]; split <;> rfl
  have hB := c_begin (x1 := 5) (by decide) (by decide) (tc := tc) (names := names) (lines := lines) (nums := nums) (f := f) (fp := fp) (fl := nI (R 0 4)) (ta := ta) (re := re) (ro := ro) (ha := ha) (bo := nI (R 0 3)) (mu := mu) (lo := lo) (ki := ki) (wi := wi) (ba := ba) (md := md) (at_ := at_) (pu := pu) (be := be) (st := st) (bw := bw) (bd := bd) (named := nI c) (en := nI e) (at0 := ct.1) (s := ct.2.1) (pl := ct.2.2.1) (v := ct.2.2.2.1) (cd := ct.2.2.2.2) hline hfull a5 rfl
  have hG := m_begins (a := R 0 3) (b := 5) (F := R 0 4) (by omega) (by omega) a5 tm (nI e) mt.1 mt.2.1 mt.2.2.1 mt.2.2.2.1 f2 wr mt.2.2.2.2 h5
  by_cases hfu : R 0 3 = 5
  · right
    obtain ⟨o, eo, o1, o5, o6⟩ := hB.1 (by rw [if_neg (show ¬ nI (R 0 3) < 5 by rw [hfu]; decide)]; decide)
    obtain ⟨o2, eo2, u1, u2, u3⟩ := d_lineBoat hc24 (mu := 0) (lo := 0) (re := nI (R 0 3)) (r1 := bw2) (r2 := bd2) (r3 := md2) (r4 := md2) (name := name) (sorts := sorts) (nums2 := nums2) (hG.1 hfu)
    refine ⟨5, q, ⟨5, by decide, by decide, rfl⟩, t2, ⟨o, eo, o1, o5, o6.trans t5⟩, ?_⟩
    unfold f_X12_readLine
    rw [(j_isWord hw kw_river).2, bind_some', if_neg e0, if_pos rfl, (j_isWord hw kw_reach).2, bind_some', if_neg e1, if_pos rfl, (j_isWord hw kw_rope).2, bind_some', if_neg e2, if_pos rfl, (j_isWord hw kw_loose).2, bind_some', if_neg e3, if_pos rfl, (j_isWord hw kw_hand).2, bind_some', if_neg e4, if_pos rfl, (j_isWord hw kw_boat).2, bind_some', if_pos e5, if_neg one_ne]
    first | rw [eo2, bind_some'] | rw [show _ = some o2 from eo2, bind_some']
    exact ⟨_, rfl, u1, u2, u3.trans t6⟩
  · by_cases hf0 : R 0 4 = 0
    · right
      obtain ⟨o, eo, o1, o5, o6⟩ := hB.2.1 (by rw [if_pos (show nI (R 0 3) < 5 from nI_lt (b := 5) (by omega) (by decide))]) hf0
      obtain ⟨o2, eo2, u1, u2, u3⟩ := d_lineBoat hc24 (mu := 0) (lo := 0) (re := nI (R 0 3)) (r1 := bw2) (r2 := bd2) (r3 := md2) (r4 := md2) (name := name) (sorts := sorts) (nums2 := nums2) (hG.2.1 (by omega) hf0)
      refine ⟨6, q, ⟨6, by decide, by decide, rfl⟩, t2, ⟨o, eo, o1, o5, o6.trans t5⟩, ?_⟩
      unfold f_X12_readLine
      rw [(j_isWord hw kw_river).2, bind_some', if_neg e0, if_pos rfl, (j_isWord hw kw_reach).2, bind_some', if_neg e1, if_pos rfl, (j_isWord hw kw_rope).2, bind_some', if_neg e2, if_pos rfl, (j_isWord hw kw_loose).2, bind_some', if_neg e3, if_pos rfl, (j_isWord hw kw_hand).2, bind_some', if_neg e4, if_pos rfl, (j_isWord hw kw_boat).2, bind_some', if_pos e5, if_neg one_ne]
      first | rw [eo2, bind_some'] | rw [show _ = some o2 from eo2, bind_some']
      exact ⟨_, rfl, u1, u2, u3.trans t6⟩
    · have hbe := hG.2.2 (by omega) (by omega)
      rw [emn, bind_some'] at hbe
      have hcl := hB.2.2 (by rw [if_pos (show nI (R 0 3) < 5 from nI_lt (b := 5) (by omega) (by decide))]) (by omega)
      rcases j_lineBoat he h (show c < 24 by omega) hn hm (show R 0 3 < 5 by omega) htn hbe f fp lines nums bw bd bw2 bd2 sorts nums2 with ⟨ln, x, y, p', c2, m2, l1, l2, x1, x2, y1, y2, E1, E2, ht2, hp2⟩ | ⟨F, q', o, o2, hBd, hq', E1, b1, b2, b3, E2, b5, b6, b7⟩
      · left
        have ecl : f_X5_readLine tc names lines nums f fp (nI (R 0 4)) ta re ro ha (nI (R 0 3)) mu lo ki wi ba md at_ pu be st bw bd (nI c) (nI e) ct.1 ct.2.1 ct.2.2.1 ct.2.2.2.1 ct.2.2.2.2 = some (1, vp_updL names c (lN (cw ln)), upd lines c 5, upd nums c (nI (R 0 3)), f, fp, nI (R 0 4), ta, re, ro, ha, nI (R 0 3 + 1), mu, lo, ki, wi, ba, md, at_, pu, be, st, upd bw (R 0 3) (nI x), upd bd (R 0 3) (nI y), nI (c + 1), c2) := by
          refine Eq.trans hcl ?_
          unfold f_X5_readLine_B75
          rw [ecn, bind_some', if_neg (show ¬ (5 : Int32) = 0 by decide), if_neg (show ¬ (5 : Int32) = 1 by decide), if_neg (show ¬ (5 : Int32) = 2 by decide), if_neg (show ¬ (5 : Int32) = 3 by decide), if_neg (show ¬ (5 : Int32) = 4 by decide), if_pos rfl, E1]
          rfl
        have emd : f_X12_readLine (nI (R 0 4)) ta2 re2 ro2 ha2 (nI (R 0 3)) mu2 lo2 (nI c) ki2 wi2 ba2 md2 at2 pu2 be2 st2 bw2 bd2 name sorts nums2 tm (nI e) mt.1 mt.2.1 mt.2.2.1 mt.2.2.2.1 f2 wr mt.2.2.2.2 = some (nI (R 0 4), ta2, re2, ro2, ha2, nI (R 0 3 + 1), mu2, lo2, nI (c + 1), ki2, wi2, ba2, md2, at2, pu2, be2, st2, upd bw2 (R 0 3) (nI x), upd bd2 (R 0 3) (nI y), vp_updL name c (lN (mw ln)), upd sorts c 2, upd nums2 c (nI (R 0 3)), m2.1, m2.2.1, m2.2.2.1, m2.2.2.2.1, f2, wr, m2.2.2.2.2) := by
          unfold f_X12_readLine
          rw [(j_isWord hw kw_river).2, bind_some', if_neg e0, if_pos rfl, (j_isWord hw kw_reach).2, bind_some', if_neg e1, if_pos rfl, (j_isWord hw kw_rope).2, bind_some', if_neg e2, if_pos rfl, (j_isWord hw kw_loose).2, bind_some', if_neg e3, if_pos rfl, (j_isWord hw kw_hand).2, bind_some', if_neg e4, if_pos rfl, (j_isWord hw kw_boat).2, bind_some', if_pos e5, if_neg one_ne, E2]
          rfl
        exact ⟨_, _, _, _, _, _, _, _, _, _, _, _, _, _, _, _, _, _, _, _, _, _, _, _, _, _, _, _, _, _, _, _, _, _, _, _, _, _, _, _, _, _, _, _, _, _, p', ecl, emd, by omega, uBoa R x y, l, c + 1, fun i => if i = c then ln else N i, uBoa_ok hD (by omega) x1 x2 y2, uBoa_F hF, hz, uBoa_F hF2, (by rw [(uBoa_1 R x y).2.2]; show c + 1 = R 0 0 + R 0 1 + R 0 2 + (R 0 3 + 1); omega), rfl, rfl, lnR_up hn l1 l2, lnR_up hm l1 l2, nmS_up hS (Nat.le_refl _) (Nat.le_refl _) (Or.inr (Or.inr ⟨by decide, by decide, rfl⟩)), ht2⟩
      · right
        refine ⟨F, q', hBd, hq', ?_, ?_⟩
        · refine (show ∀ A B : Option (Int32 × (Nat → Int64) × (Nat → Int32) × (Nat → Int32) × Int32 × Int32 × Int32 × Int32 × Int32 × Int32 × Int32 × Int32 × Int32 × Int32 × (Nat → Int32) × (Nat → Int32) × (Nat → Int32) × (Nat → Int32) × (Nat → Int32) × (Nat → Int32) × (Nat → Int32) × (Nat → Int32) × (Nat → Int32) × (Nat → Int32) × Int32 × Int32 × Int32 × Int32 × Int32 × Int64), A = B → (∃ o, B = some o ∧ o.1 = 0 ∧ o.2.2.2.2.1 = F ∧ o.2.2.2.2.2.1 = nI q') → (∃ o, A = some o ∧ o.1 = 0 ∧ o.2.2.2.2.1 = F ∧ o.2.2.2.2.2.1 = nI q') from fun A B hAB hx => hAB ▸ hx) _ _ hcl ?_
          unfold f_X5_readLine_B75
          rw [ecn, bind_some', if_neg (show ¬ (5 : Int32) = 0 by decide), if_neg (show ¬ (5 : Int32) = 1 by decide), if_neg (show ¬ (5 : Int32) = 2 by decide), if_neg (show ¬ (5 : Int32) = 3 by decide), if_neg (show ¬ (5 : Int32) = 4 by decide), if_pos rfl, E1, bind_some', b1]
          exact ⟨_, rfl, rfl, b2, b3⟩
        · unfold f_X12_readLine
          rw [(j_isWord hw kw_river).2, bind_some', if_neg e0, if_pos rfl, (j_isWord hw kw_reach).2, bind_some', if_neg e1, if_pos rfl, (j_isWord hw kw_rope).2, bind_some', if_neg e2, if_pos rfl, (j_isWord hw kw_loose).2, bind_some', if_neg e3, if_pos rfl, (j_isWord hw kw_hand).2, bind_some', if_neg e4, if_pos rfl, (j_isWord hw kw_boat).2, bind_some', if_pos e5, if_neg one_ne, E2, bind_some']
          exact ⟨_, rfl, b5, b6, b7⟩
set_option maxHeartbeats 400000 in
theorem j_rlMud {e : Nat} (he : e ≤ 900) {tc tm : (Nat → Int32)} {bt : Nat → Nat} (h : tpB e tc tm bt) {p : Nat} {names : Nat → Int64} {lines nums : (Nat → Int32)} {fl ta re ro ha bo mu lo : Int32} {ki wi ba md at_ pu be st bw bd : (Nat → Int32)} {named : Int32} {ct : (Int32 × Int32 × Int32 × Int32 × Int64)} {fl2 ta2 re2 ro2 ha2 bo2 mu2 lo2 nn2 : Int32} {ki2 wi2 ba2 md2 at2 pu2 be2 st2 bw2 bd2 : (Nat → Int32)} {name : Nat → Int64} {sorts nums2 : (Nat → Int32)} {mt : (Int32 × Int32 × Int32 × Int32 × Int64)} {R : Nat → Nat → Nat} {l c : Nat} {N : Nat → List Nat} (hD : drOK R l) (hF : drF R l fl ta re ro ha bo mu lo ki wi ba md at_ pu be st bw bd) (hz : ∀ r, R 0 0 ≤ r → r < 6 → md r = -1) (hF2 : drF R l fl2 ta2 re2 ro2 ha2 bo2 mu2 lo2 ki2 wi2 ba2 md2 at2 pu2 be2 st2 bw2 bd2) (hcc : c = R 0 0 + R 0 1 + R 0 2 + R 0 3) (hnm : named = nI c) (hnm2 : nn2 = nI c) (hn : lnR c N cw names) (hm : lnR c N mw name) (hS : nmS (R 0 0) (R 0 1) c lines nums sorts nums2) (ht : tkR e p ct mt) {ol : Option (List Nat)} (hw : wdR ol ct.2.1 ct.2.2.2.2 mt.2.1 mt.2.2.2.2) (e0 : ¬ ol = some l_river) (e1 : ¬ ol = some l_reach) (e2 : ¬ ol = some l_rope) (e3 : ¬ ol = some l_loose) (e4 : ¬ ol = some l_hand) (e5 : ¬ ol = some l_boat) (e6 : ol = some l_mud) (f fp f2 wr : Int32) :
    (∃ (names' : Nat → Int64) (lines' nums' : (Nat → Int32)) (fl' ta' re' ro' ha' bo' mu' lo' : Int32) (ki' wi' ba' md' at_' pu' be' st' bw' bd' : (Nat → Int32)) (named' : Int32) (c2 : (Int32 × Int32 × Int32 × Int32 × Int64)) (fl2' ta2' re2' ro2' ha2' bo2' mu2' lo2' nn2' : Int32) (ki2' wi2' ba2' md2' at2' pu2' be2' st2' bw2' bd2' : (Nat → Int32)) (name' : Nat → Int64) (sorts' nums2' : (Nat → Int32)) (m2 : (Int32 × Int32 × Int32 × Int32 × Int64)) (p' : Nat), f_X5_readLine tc names lines nums f fp fl ta re ro ha bo mu lo ki wi ba md at_ pu be st bw bd named (nI e) ct.1 ct.2.1 ct.2.2.1 ct.2.2.2.1 ct.2.2.2.2 = some (1, names', lines', nums', f, fp, fl', ta', re', ro', ha', bo', mu', lo', ki', wi', ba', md', at_', pu', be', st', bw', bd', named', c2) ∧ f_X12_readLine fl2 ta2 re2 ro2 ha2 bo2 mu2 lo2 nn2 ki2 wi2 ba2 md2 at2 pu2 be2 st2 bw2 bd2 name sorts nums2 tm (nI e) mt.1 mt.2.1 mt.2.2.1 mt.2.2.2.1 f2 wr mt.2.2.2.2 = some (fl2', ta2', re2', ro2', ha2', bo2', mu2', lo2', nn2', ki2', wi2', ba2', md2', at2', pu2', be2', st2', bw2', bd2', name', sorts', nums2', m2.1, m2.2.1, m2.2.2.1, m2.2.2.2.1, f2, wr, m2.2.2.2.2) ∧ p ≤ p' ∧ SR e p' names' lines' nums' fl' ta' re' ro' ha' bo' mu' lo' ki' wi' ba' md' at_' pu' be' st' bw' bd' named' c2 fl2' ta2' re2' ro2' ha2' bo2' mu2' lo2' nn2' ki2' wi2' ba2' md2' at2' pu2' be2' st2' bw2' bd2' name' sorts' nums2' m2) ∨
    (∃ F q, badF F ∧ q ≤ e ∧ (∃ o, f_X5_readLine tc names lines nums f fp fl ta re ro ha bo mu lo ki wi ba md at_ pu be st bw bd named (nI e) ct.1 ct.2.1 ct.2.2.1 ct.2.2.2.1 ct.2.2.2.2 = some o ∧ o.1 = 0 ∧ o.2.2.2.2.1 = F ∧ o.2.2.2.2.2.1 = nI q) ∧ (∃ o2, f_X12_readLine fl2 ta2 re2 ro2 ha2 bo2 mu2 lo2 nn2 ki2 wi2 ba2 md2 at2 pu2 be2 st2 bw2 bd2 name sorts nums2 tm (nI e) mt.1 mt.2.1 mt.2.2.1 mt.2.2.2.1 f2 wr mt.2.2.2.2 = some o2 ∧ o2.2.2.2.2.2.2.2.2.2.2.2.2.2.2.2.2.2.2.2.2.2.2.2.1 = 5 ∧ o2.2.2.2.2.2.2.2.2.2.2.2.2.2.2.2.2.2.2.2.2.2.2.2.2.2.2.1 = F ∧ o2.2.2.2.2.2.2.2.2.2.2.2.2.2.2.2.2.2.2.2.2.2.2.2.2.2.2.2.1 = nI q)) := by
  subst hnm; subst hnm2
  have h5 := tkR_5 ht
  obtain ⟨q, t1, t2, t3, t4, t5, t6, -⟩ := id ht
  have hline := c_lineOf hw
  obtain ⟨a1, a2, a3, a4, a5, a6, a7, a8, a9, a10, a11, a12⟩ := id hD
  obtain ⟨f1, f2', f3, f4, f5, f6, f7, f8, f9, f10, f11, f12, f13, f14, f15, f16, f17, f18⟩ := id hF
  obtain ⟨g1, g2, g3, g4, g5, g6, g7, g8, g9, g10, g11, g12, g13, g14, g15, g16, g17, g18⟩ := id hF2
  have hc24 : c ≤ 24 := by omega
  obtain ⟨pn, cn, mn, ecn, emn, htn, hpn, -⟩ := j_next he h t1 ct.2.1 ct.2.2.1 ct.2.2.2.1 ct.2.2.2.2 mt.2.1 mt.2.2.1 mt.2.2.2.1 mt.2.2.2.2 h5
  rw [← t3] at ecn
  rw [← t4] at emn
  have hlX : lineN ol = 6 := by rw [e6]; decide
  rw [hlX] at hline
  subst f1; subst g1; subst f7; subst g7
  have hfull : f_X5_isFull 6 re ro ha bo = some 0 := by
    unfold f_X5_isFull; rw [if_neg (show ¬ (6 : Int32) = 1 by decide), if_neg (show ¬ (6 : Int32) = 2 by decide), if_neg (show ¬ (6 : Int32) = 3 by decide), if_neg (show ¬ (6 : Int32) = 4 by decide), if_neg (show ¬ (6 : Int32) = 5 by decide)]
  have hB := c_begin (x1 := 6) (by decide) (by decide) (tc := tc) (names := names) (lines := lines) (nums := nums) (f := f) (fp := fp) (fl := nI (R 0 4)) (ta := ta) (re := re) (ro := ro) (ha := ha) (bo := bo) (mu := nI (R 0 6)) (lo := lo) (ki := ki) (wi := wi) (ba := ba) (md := md) (at_ := at_) (pu := pu) (be := be) (st := st) (bw := bw) (bd := bd) (named := nI c) (en := nI e) (at0 := ct.1) (s := ct.2.1) (pl := ct.2.2.1) (v := ct.2.2.2.1) (cd := ct.2.2.2.2) hline hfull a5 rfl
  have hG := m_begins (a := 0) (b := 1) (F := R 0 4) (by omega) (by omega) a5 tm (nI e) mt.1 mt.2.1 mt.2.2.1 mt.2.2.2.1 f2 wr mt.2.2.2.2 h5
  by_cases hfu : 0 = 1
  · right
    obtain ⟨o, eo, o1, o5, o6⟩ := hB.1 (by omega)
    obtain ⟨o2, eo2, u1, u2, u3⟩ := d_lineMud hc24 (mu := nI (R 0 6)) (lo := 0) (re := 0) (r1 := md2) (r2 := md2) (r3 := md2) (r4 := md2) (name := name) (sorts := sorts) (nums2 := nums2) (hG.1 hfu)
    refine ⟨5, q, ⟨5, by decide, by decide, rfl⟩, t2, ⟨o, eo, o1, o5, o6.trans t5⟩, ?_⟩
    unfold f_X12_readLine
    rw [(j_isWord hw kw_river).2, bind_some', if_neg e0, if_pos rfl, (j_isWord hw kw_reach).2, bind_some', if_neg e1, if_pos rfl, (j_isWord hw kw_rope).2, bind_some', if_neg e2, if_pos rfl, (j_isWord hw kw_loose).2, bind_some', if_neg e3, if_pos rfl, (j_isWord hw kw_hand).2, bind_some', if_neg e4, if_pos rfl, (j_isWord hw kw_boat).2, bind_some', if_neg e5, if_pos rfl, (j_isWord hw kw_mud).2, bind_some', if_pos e6, if_neg one_ne]
    first | rw [eo2, bind_some'] | rw [show _ = some o2 from eo2, bind_some']
    exact ⟨_, rfl, u1, u2, u3.trans t6⟩
  · by_cases hf0 : R 0 4 = 0
    · right
      obtain ⟨o, eo, o1, o5, o6⟩ := hB.2.1 (by rfl) hf0
      obtain ⟨o2, eo2, u1, u2, u3⟩ := d_lineMud hc24 (mu := nI (R 0 6)) (lo := 0) (re := 0) (r1 := md2) (r2 := md2) (r3 := md2) (r4 := md2) (name := name) (sorts := sorts) (nums2 := nums2) (hG.2.1 (by omega) hf0)
      refine ⟨6, q, ⟨6, by decide, by decide, rfl⟩, t2, ⟨o, eo, o1, o5, o6.trans t5⟩, ?_⟩
      unfold f_X12_readLine
      rw [(j_isWord hw kw_river).2, bind_some', if_neg e0, if_pos rfl, (j_isWord hw kw_reach).2, bind_some', if_neg e1, if_pos rfl, (j_isWord hw kw_rope).2, bind_some', if_neg e2, if_pos rfl, (j_isWord hw kw_loose).2, bind_some', if_neg e3, if_pos rfl, (j_isWord hw kw_hand).2, bind_some', if_neg e4, if_pos rfl, (j_isWord hw kw_boat).2, bind_some', if_neg e5, if_pos rfl, (j_isWord hw kw_mud).2, bind_some', if_pos e6, if_neg one_ne]
      first | rw [eo2, bind_some'] | rw [show _ = some o2 from eo2, bind_some']
      exact ⟨_, rfl, u1, u2, u3.trans t6⟩
    · have hbe := hG.2.2 (by omega) (by omega)
      rw [emn, bind_some'] at hbe
      have hcl := hB.2.2 (by rfl) (by omega)
      rcases j_lineMud he h hc24 hn hm (show R 0 0 ≤ 6 from a1) (nmS_1 hS) (g := R 10) (fun r hr => (a8 r hr).2.2.2.2.2) f12 g12 htn hbe f fp (R 0 6) with ⟨k, x, p', c2, m2, hk, x2, E1, E2, ht2, hp2⟩ | ⟨F, q', o, o2, hBd, hq', E1, b1, b2, b3, E2, b5, b6, b7⟩
      · left
        have ecl : f_X5_readLine tc names lines nums f fp (nI (R 0 4)) ta re ro ha bo (nI (R 0 6)) lo ki wi ba md at_ pu be st bw bd (nI c) (nI e) ct.1 ct.2.1 ct.2.2.1 ct.2.2.2.1 ct.2.2.2.2 = some (1, names, lines, nums, f, fp, nI (R 0 4), ta, re, ro, ha, bo, nI (R 0 6 + 1), lo, ki, wi, ba, upd md k (nI x), at_, pu, be, st, bw, bd, nI c, c2) := by
          refine Eq.trans hcl ?_
          unfold f_X5_readLine_B75
          rw [ecn, bind_some', if_neg (show ¬ (6 : Int32) = 0 by decide), if_neg (show ¬ (6 : Int32) = 1 by decide), if_neg (show ¬ (6 : Int32) = 2 by decide), if_neg (show ¬ (6 : Int32) = 3 by decide), if_neg (show ¬ (6 : Int32) = 4 by decide), if_neg (show ¬ (6 : Int32) = 5 by decide), E1]
          rfl
        have emd : f_X12_readLine (nI (R 0 4)) ta2 re2 ro2 ha2 bo2 (nI (R 0 6)) lo2 (nI c) ki2 wi2 ba2 md2 at2 pu2 be2 st2 bw2 bd2 name sorts nums2 tm (nI e) mt.1 mt.2.1 mt.2.2.1 mt.2.2.2.1 f2 wr mt.2.2.2.2 = some (nI (R 0 4), ta2, re2, ro2, ha2, bo2, nI (R 0 6 + 1), lo2, nI c, ki2, wi2, ba2, upd md2 k (nI x), at2, pu2, be2, st2, bw2, bd2, name, sorts, nums2, m2.1, m2.2.1, m2.2.2.1, m2.2.2.2.1, f2, wr, m2.2.2.2.2) := by
          unfold f_X12_readLine
          rw [(j_isWord hw kw_river).2, bind_some', if_neg e0, if_pos rfl, (j_isWord hw kw_reach).2, bind_some', if_neg e1, if_pos rfl, (j_isWord hw kw_rope).2, bind_some', if_neg e2, if_pos rfl, (j_isWord hw kw_loose).2, bind_some', if_neg e3, if_pos rfl, (j_isWord hw kw_hand).2, bind_some', if_neg e4, if_pos rfl, (j_isWord hw kw_boat).2, bind_some', if_neg e5, if_pos rfl, (j_isWord hw kw_mud).2, bind_some', if_pos e6, if_neg one_ne, E2]
          rfl
        exact ⟨_, _, _, _, _, _, _, _, _, _, _, _, _, _, _, _, _, _, _, _, _, _, _, _, _, _, _, _, _, _, _, _, _, _, _, _, _, _, _, _, _, _, _, _, _, _, p', ecl, emd, by omega, uMud R k x, l, c, N, uMud_ok hD x2, uMud_F hF, fun r hr1 hr2 => (by rw [upd_n _ _ (show r ≠ k by have : R 0 0 ≤ r := hr1; omega)]; exact hz r hr1 hr2), uMud_F hF2, hcc, rfl, rfl, hn, hm, hS, ht2⟩
      · right
        refine ⟨F, q', hBd, hq', ?_, ?_⟩
        · refine (show ∀ A B : Option (Int32 × (Nat → Int64) × (Nat → Int32) × (Nat → Int32) × Int32 × Int32 × Int32 × Int32 × Int32 × Int32 × Int32 × Int32 × Int32 × Int32 × (Nat → Int32) × (Nat → Int32) × (Nat → Int32) × (Nat → Int32) × (Nat → Int32) × (Nat → Int32) × (Nat → Int32) × (Nat → Int32) × (Nat → Int32) × (Nat → Int32) × Int32 × Int32 × Int32 × Int32 × Int32 × Int64), A = B → (∃ o, B = some o ∧ o.1 = 0 ∧ o.2.2.2.2.1 = F ∧ o.2.2.2.2.2.1 = nI q') → (∃ o, A = some o ∧ o.1 = 0 ∧ o.2.2.2.2.1 = F ∧ o.2.2.2.2.2.1 = nI q') from fun A B hAB hx => hAB ▸ hx) _ _ hcl ?_
          unfold f_X5_readLine_B75
          rw [ecn, bind_some', if_neg (show ¬ (6 : Int32) = 0 by decide), if_neg (show ¬ (6 : Int32) = 1 by decide), if_neg (show ¬ (6 : Int32) = 2 by decide), if_neg (show ¬ (6 : Int32) = 3 by decide), if_neg (show ¬ (6 : Int32) = 4 by decide), if_neg (show ¬ (6 : Int32) = 5 by decide), E1, bind_some', b1]
          exact ⟨_, rfl, rfl, b2, b3⟩
        · unfold f_X12_readLine
          rw [(j_isWord hw kw_river).2, bind_some', if_neg e0, if_pos rfl, (j_isWord hw kw_reach).2, bind_some', if_neg e1, if_pos rfl, (j_isWord hw kw_rope).2, bind_some', if_neg e2, if_pos rfl, (j_isWord hw kw_loose).2, bind_some', if_neg e3, if_pos rfl, (j_isWord hw kw_hand).2, bind_some', if_neg e4, if_pos rfl, (j_isWord hw kw_boat).2, bind_some', if_neg e5, if_pos rfl, (j_isWord hw kw_mud).2, bind_some', if_pos e6, if_neg one_ne, E2, bind_some']
          exact ⟨_, rfl, b5, b6, b7⟩
set_option maxHeartbeats 400000 in
theorem j_rlNone {e : Nat} (he : e ≤ 900) {tc tm : (Nat → Int32)} {bt : Nat → Nat} (h : tpB e tc tm bt) {p : Nat} {names : Nat → Int64} {lines nums : (Nat → Int32)} {fl ta re ro ha bo mu lo : Int32} {ki wi ba md at_ pu be st bw bd : (Nat → Int32)} {named : Int32} {ct : (Int32 × Int32 × Int32 × Int32 × Int64)} {fl2 ta2 re2 ro2 ha2 bo2 mu2 lo2 nn2 : Int32} {ki2 wi2 ba2 md2 at2 pu2 be2 st2 bw2 bd2 : (Nat → Int32)} {name : Nat → Int64} {sorts nums2 : (Nat → Int32)} {mt : (Int32 × Int32 × Int32 × Int32 × Int64)} (ht : tkR e p ct mt) {ol : Option (List Nat)} (hw : wdR ol ct.2.1 ct.2.2.2.2 mt.2.1 mt.2.2.2.2) (e0 : ¬ ol = some l_river) (e1 : ¬ ol = some l_reach) (e2 : ¬ ol = some l_rope) (e3 : ¬ ol = some l_loose) (e4 : ¬ ol = some l_hand) (e5 : ¬ ol = some l_boat) (e6 : ¬ ol = some l_mud) (f fp f2 wr : Int32) :
    (∃ F q, badF F ∧ q ≤ e ∧ (∃ o, f_X5_readLine tc names lines nums f fp fl ta re ro ha bo mu lo ki wi ba md at_ pu be st bw bd named (nI e) ct.1 ct.2.1 ct.2.2.1 ct.2.2.2.1 ct.2.2.2.2 = some o ∧ o.1 = 0 ∧ o.2.2.2.2.1 = F ∧ o.2.2.2.2.2.1 = nI q) ∧ (∃ o2, f_X12_readLine fl2 ta2 re2 ro2 ha2 bo2 mu2 lo2 nn2 ki2 wi2 ba2 md2 at2 pu2 be2 st2 bw2 bd2 name sorts nums2 tm (nI e) mt.1 mt.2.1 mt.2.2.1 mt.2.2.2.1 f2 wr mt.2.2.2.2 = some o2 ∧ o2.2.2.2.2.2.2.2.2.2.2.2.2.2.2.2.2.2.2.2.2.2.2.2.1 = 5 ∧ o2.2.2.2.2.2.2.2.2.2.2.2.2.2.2.2.2.2.2.2.2.2.2.2.2.2.2.1 = F ∧ o2.2.2.2.2.2.2.2.2.2.2.2.2.2.2.2.2.2.2.2.2.2.2.2.2.2.2.2.1 = nI q)) := by
  have h5 := tkR_5 ht
  obtain ⟨q, t1, t2, t3, t4, t5, t6, -⟩ := id ht
  have hline := c_lineOf hw
  have hlX : lineN ol = -1 := by
    unfold lineN
    rw [if_neg e0, if_neg e1, if_neg e2, if_neg e3, if_neg e4, if_neg e5, if_neg e6]
  rw [hlX] at hline
  refine ⟨1, q, ⟨1, by decide, by decide, rfl⟩, t2, ?_, ?_⟩
  · unfold f_X5_readLine
    rw [hline, bind_some', if_pos rfl]
    exact ⟨_, rfl, rfl, rfl, t5⟩
  · unfold f_X12_readLine
    rw [(j_isWord hw kw_river).2, bind_some', if_neg e0, if_pos rfl, (j_isWord hw kw_reach).2, bind_some', if_neg e1, if_pos rfl, (j_isWord hw kw_rope).2, bind_some', if_neg e2, if_pos rfl, (j_isWord hw kw_loose).2, bind_some', if_neg e3, if_pos rfl, (j_isWord hw kw_hand).2, bind_some', if_neg e4, if_pos rfl, (j_isWord hw kw_boat).2, bind_some', if_neg e5, if_pos rfl, (j_isWord hw kw_mud).2, bind_some', if_neg e6, if_pos rfl, n_flaw h5, bind_some']
    exact ⟨_, rfl, rfl, rfl, t6⟩
set_option maxHeartbeats 400000 in
theorem j_readLine {e : Nat} (he : e ≤ 900) {tc tm : (Nat → Int32)} {bt : Nat → Nat} (h : tpB e tc tm bt) {p : Nat} {names : Nat → Int64} {lines nums : (Nat → Int32)} {fl ta re ro ha bo mu lo : Int32} {ki wi ba md at_ pu be st bw bd : (Nat → Int32)} {named : Int32} {ct : (Int32 × Int32 × Int32 × Int32 × Int64)} {fl2 ta2 re2 ro2 ha2 bo2 mu2 lo2 nn2 : Int32} {ki2 wi2 ba2 md2 at2 pu2 be2 st2 bw2 bd2 : (Nat → Int32)} {name : Nat → Int64} {sorts nums2 : (Nat → Int32)} {mt : (Int32 × Int32 × Int32 × Int32 × Int64)} (hs : SR e p names lines nums fl ta re ro ha bo mu lo ki wi ba md at_ pu be st bw bd named ct fl2 ta2 re2 ro2 ha2 bo2 mu2 lo2 nn2 ki2 wi2 ba2 md2 at2 pu2 be2 st2 bw2 bd2 name sorts nums2 mt) (f fp f2 wr : Int32) :
    (∃ (names' : Nat → Int64) (lines' nums' : (Nat → Int32)) (fl' ta' re' ro' ha' bo' mu' lo' : Int32) (ki' wi' ba' md' at_' pu' be' st' bw' bd' : (Nat → Int32)) (named' : Int32) (c2 : (Int32 × Int32 × Int32 × Int32 × Int64)) (fl2' ta2' re2' ro2' ha2' bo2' mu2' lo2' nn2' : Int32) (ki2' wi2' ba2' md2' at2' pu2' be2' st2' bw2' bd2' : (Nat → Int32)) (name' : Nat → Int64) (sorts' nums2' : (Nat → Int32)) (m2 : (Int32 × Int32 × Int32 × Int32 × Int64)) (p' : Nat), f_X5_readLine tc names lines nums f fp fl ta re ro ha bo mu lo ki wi ba md at_ pu be st bw bd named (nI e) ct.1 ct.2.1 ct.2.2.1 ct.2.2.2.1 ct.2.2.2.2 = some (1, names', lines', nums', f, fp, fl', ta', re', ro', ha', bo', mu', lo', ki', wi', ba', md', at_', pu', be', st', bw', bd', named', c2) ∧ f_X12_readLine fl2 ta2 re2 ro2 ha2 bo2 mu2 lo2 nn2 ki2 wi2 ba2 md2 at2 pu2 be2 st2 bw2 bd2 name sorts nums2 tm (nI e) mt.1 mt.2.1 mt.2.2.1 mt.2.2.2.1 f2 wr mt.2.2.2.2 = some (fl2', ta2', re2', ro2', ha2', bo2', mu2', lo2', nn2', ki2', wi2', ba2', md2', at2', pu2', be2', st2', bw2', bd2', name', sorts', nums2', m2.1, m2.2.1, m2.2.2.1, m2.2.2.2.1, f2, wr, m2.2.2.2.2) ∧ p ≤ p' ∧ SR e p' names' lines' nums' fl' ta' re' ro' ha' bo' mu' lo' ki' wi' ba' md' at_' pu' be' st' bw' bd' named' c2 fl2' ta2' re2' ro2' ha2' bo2' mu2' lo2' nn2' ki2' wi2' ba2' md2' at2' pu2' be2' st2' bw2' bd2' name' sorts' nums2' m2) ∨
    (∃ F q, badF F ∧ q ≤ e ∧ (∃ o, f_X5_readLine tc names lines nums f fp fl ta re ro ha bo mu lo ki wi ba md at_ pu be st bw bd named (nI e) ct.1 ct.2.1 ct.2.2.1 ct.2.2.2.1 ct.2.2.2.2 = some o ∧ o.1 = 0 ∧ o.2.2.2.2.1 = F ∧ o.2.2.2.2.2.1 = nI q) ∧ (∃ o2, f_X12_readLine fl2 ta2 re2 ro2 ha2 bo2 mu2 lo2 nn2 ki2 wi2 ba2 md2 at2 pu2 be2 st2 bw2 bd2 name sorts nums2 tm (nI e) mt.1 mt.2.1 mt.2.2.1 mt.2.2.2.1 f2 wr mt.2.2.2.2 = some o2 ∧ o2.2.2.2.2.2.2.2.2.2.2.2.2.2.2.2.2.2.2.2.2.2.2.2.1 = 5 ∧ o2.2.2.2.2.2.2.2.2.2.2.2.2.2.2.2.2.2.2.2.2.2.2.2.2.2.2.1 = F ∧ o2.2.2.2.2.2.2.2.2.2.2.2.2.2.2.2.2.2.2.2.2.2.2.2.2.2.2.2.1 = nI q)) := by
  obtain ⟨R, l, c, N, hD, hF, hz, hF2, hcc, hnm, hnm2, hn, hm, hS, ht⟩ := hs
  obtain ⟨ol, hw⟩ := tkR_wd ht
  by_cases e0 : ol = some l_river
  · exact j_rlRiver he h hD hF hz hF2 hcc hnm hnm2 hn hm hS ht hw e0 f fp f2 wr
  by_cases e1 : ol = some l_reach
  · exact j_rlReach he h hD hF hz hF2 hcc hnm hnm2 hn hm hS ht hw e0 e1 f fp f2 wr
  by_cases e2 : ol = some l_rope
  · exact j_rlRope he h hD hF hz hF2 hcc hnm hnm2 hn hm hS ht hw e0 e1 e2 f fp f2 wr
  by_cases e3 : ol = some l_loose
  · exact j_rlLoose he h hD hF hz hF2 hcc hnm hnm2 hn hm hS ht hw e0 e1 e2 e3 f fp f2 wr
  by_cases e4 : ol = some l_hand
  · exact j_rlHand he h hD hF hz hF2 hcc hnm hnm2 hn hm hS ht hw e0 e1 e2 e3 e4 f fp f2 wr
  by_cases e5 : ol = some l_boat
  · exact j_rlBoat he h hD hF hz hF2 hcc hnm hnm2 hn hm hS ht hw e0 e1 e2 e3 e4 e5 f fp f2 wr
  by_cases e6 : ol = some l_mud
  · exact j_rlMud he h hD hF hz hF2 hcc hnm hnm2 hn hm hS ht hw e0 e1 e2 e3 e4 e5 e6 f fp f2 wr
  exact Or.inr (j_rlNone he h ht hw e0 e1 e2 e3 e4 e5 e6 f fp f2 wr)
