/-! one call, both sides: what holds again -/
set_option maxHeartbeats 2000000 in
theorem pT_43 {cap : Nat} (hcap : cap < 2 ^ 15) {ci : Nat → Int32} {cf : Nat → Nat → Int32} {mi : Nat → Int32} {mf : Nat → Nat → Int32} {ri : Nat → Int32} {rf : Nat → Nat → Int32} {kl kb kf ks : Nat → Int32} {kw : Nat → Nat → Int32} {mlM mbM mfM msM : Nat → Int32} {mwM : Nat → Nat → Int32} (hr : rlT cap ci cf mi mf ri rf kl kb kf ks kw mlM mbM mfM msM mwM) (x1 x2 : Int32) : ∃ o q, f_X10_firstFlood x1 x2 (ci 18) (ci 19) (ci 20) (ci 21) (cf 13) (cf 43) (cf 44) (cf 45) (cf 46) (cf 47) (ci 57) (ci 58) (ci 59) (ci 60) (ci 61) (ci 62) (ci 63) (cf 48) (ci 55) (ci 56) (ci 64) (ci 66) (ci 67) (cf 49) (cf 50) (cf 51) (cf 53) (cf 54) (cf 55) (ci 0) = some o ∧ f_X12_firstFlood x1 x2 (mi 0) (mi 1) (mi 2) (ri 0) (ri 2) (ri 3) (rf 0) (rf 1) (rf 2) (rf 4) (rf 5) (rf 6) (mf 1) (mf 2) (mf 5) (mf 6) (mf 7) (mf 8) (mi 13) (mi 23) = some q ∧ o.1 = q.1 ∧ rlT (cap + 1) (up ci [(0, o.2.2.2.2.2.2.2.2.2.2.2.2.2.2.2.2), (55, o.2.2.2.2.2.2.2.2.2.2.2.2.2.2.1), (56, o.2.2.2.2.2.2.2.2.2.2.2.2.2.2.2.1), (57, o.2.2.2.2.2.2.1), (58, o.2.2.2.2.2.2.2.1), (59, o.2.2.2.2.2.2.2.2.1), (60, o.2.2.2.2.2.2.2.2.2.1), (61, o.2.2.2.2.2.2.2.2.2.2.1), (62, o.2.2.2.2.2.2.2.2.2.2.2.1), (63, o.2.2.2.2.2.2.2.2.2.2.2.2.1)]) (up cf [(43, o.2.1), (44, o.2.2.1), (45, o.2.2.2.1), (46, o.2.2.2.2.1), (47, o.2.2.2.2.2.1), (48, o.2.2.2.2.2.2.2.2.2.2.2.2.2.1)]) (up mi [(0, q.2.1), (1, q.2.2.1), (2, q.2.2.2.1), (13, q.2.2.2.2.2.2.2.2.2.1), (23, q.2.2.2.2.2.2.2.2.2.2)]) (up mf [(2, q.2.2.2.2.1), (5, q.2.2.2.2.2.1), (6, q.2.2.2.2.2.2.1), (7, q.2.2.2.2.2.2.2.1), (8, q.2.2.2.2.2.2.2.2.1)]) ri rf kl kb kf ks kw mlM mbM mfM msM mwM := by
  obtain ⟨R, l, hC, hR, D, D2, hN, hM, hK⟩ := hr
  obtain ⟨d64, d65, d66, d67, d68, d69, d70, d71, dk, dw, db, hm, da, du, hb, hs, hbw, hbd⟩ := id D
  obtain ⟨r0, r1, r2, r3, r4, r5, r6, r7, ek, ew, eb, hm2, ea, eu, hb2, hs2, hbw2, hbd2⟩ := id D2
  have T : tR R (cf 49) (cf 50) (cf 51) (cf 53) (cf 54) := ⟨dk, dw, db, da, du⟩
  have T2 : tR R (rf 0) (rf 1) (rf 2) (rf 4) (rf 5) := ⟨ek, ew, eb, ea, eu⟩
  obtain ⟨⟨L, U, f, sd, V⟩, ⟨a18, a19, a20, a21, hwr⟩, hv, ⟨hL, hU, hdj, hsd, hVc⟩, hf9⟩ := id hN
  replace a18 : ci 18 = nI L := a18
  replace a19 : ci 19 = nI U := a19
  replace a20 : ci 20 = nI f := a20
  replace a21 : ci 21 = nI sd := a21
  replace hwr : rw_ (R 0 1) (cf 13) V := hwr
  replace hv : vR (R 0 1) (mf 1) L U f sd V := hv
  replace hL : L < 2 ^ R 0 1 := hL
  replace hU : U < 2 ^ R 0 1 := hU
  replace hdj : dj L U := hdj
  replace hsd : sd ≤ 65536 := hsd
  replace hVc : ∀ j, j < R 0 1 → V j ≤ cap := hVc
  replace hf9 : f ≤ 999 := hf9
  have hV : ∀ j, j < R 0 1 → V j < 2 ^ 20 := fun j hj => Nat.lt_of_le_of_lt (hVc j hj) (Nat.lt_trans hcap (by decide))
  have hf : f < 2 ^ 16 := Nat.lt_of_le_of_lt hf9 (by decide)
  have hq : qOK R cap (L, U, sd, V) := ⟨hL, hU, hdj, hsd, hVc⟩
  rw [a18, a19, a20, a21, d64, d66, d67, r0, r2, r3]
  obtain ⟨o, q, e1, e2, h1, h2, h3, h5, h6⟩ := j_firstFlood hR hcap hq T T2 hv hb hb2 hwr x1 x2 (cf 43) (cf 44) (cf 45) (cf 46) (cf 47) (ci 57) (ci 58) (ci 59) (ci 60) (ci 61) (ci 62) (ci 63) (cf 48) (ci 55) (ci 56) (ci 0) (mi 0) (mi 1) (mi 2) (mf 2) (mf 5) (mf 6) (mf 7) (mf 8) (mi 13) (mi 23)
  exact ⟨o, q, e1, e2, h1.symm, R, l, ⟨hC.1, hC.2.1, h3, wh_n h6 h5, hC.2.2.2.2⟩, hR, D, D2, nowE_up (Nat.le_succ _) hN, memE_up (Nat.le_succ _) hM, mrkE_up (Nat.le_succ _) hK⟩
set_option maxHeartbeats 2000000 in
theorem pU_43 {ci : Nat → Int32} {cf : Nat → Nat → Int32} {mi : Nat → Int32} {mf : Nat → Nat → Int32} (hr : rlU ci cf mi mf) (x1 x2 : Int32) : ∃ o q, f_X10_firstFlood x1 x2 (ci 18) (ci 19) (ci 20) (ci 21) (cf 13) (cf 43) (cf 44) (cf 45) (cf 46) (cf 47) (ci 57) (ci 58) (ci 59) (ci 60) (ci 61) (ci 62) (ci 63) (cf 48) (ci 55) (ci 56) (ci 64) (ci 66) (ci 67) (cf 49) (cf 50) (cf 51) (cf 53) (cf 54) (cf 55) (ci 0) = some o ∧ f_X12_firstFloodN x1 x2 (mi 0) (mi 1) (mi 2) (mf 1) (mf 2) (mi 23) = some q ∧ o.1 = q.1 ∧ rlU (up ci [(0, o.2.2.2.2.2.2.2.2.2.2.2.2.2.2.2.2), (55, o.2.2.2.2.2.2.2.2.2.2.2.2.2.2.1), (56, o.2.2.2.2.2.2.2.2.2.2.2.2.2.2.2.1), (57, o.2.2.2.2.2.2.1), (58, o.2.2.2.2.2.2.2.1), (59, o.2.2.2.2.2.2.2.2.1), (60, o.2.2.2.2.2.2.2.2.2.1), (61, o.2.2.2.2.2.2.2.2.2.2.1), (62, o.2.2.2.2.2.2.2.2.2.2.2.1), (63, o.2.2.2.2.2.2.2.2.2.2.2.2.1)]) (up cf [(43, o.2.1), (44, o.2.2.1), (45, o.2.2.2.1), (46, o.2.2.2.2.1), (47, o.2.2.2.2.2.1), (48, o.2.2.2.2.2.2.2.2.2.2.2.2.2.1)]) (up mi [(0, q.2.1), (1, q.2.2.1), (2, q.2.2.2.1), (23, q.2.2.2.2.2)]) (up mf [(2, q.2.2.2.2.1)]) := by
  obtain ⟨hC, u20, u21, u23, u24, u64, u65, u66, u67, u68, u69, u70⟩ := hr
  rw [u66, u67]
  obtain ⟨o, e1, h1, h2⟩ := n_firstFlood x1 x2 (ci 18) (ci 19) (ci 20) (ci 21) (cf 13) (cf 43) (cf 44) (cf 45) (cf 46) (cf 47) (ci 57) (ci 58) (ci 59) (ci 60) (ci 61) (ci 62) (ci 63) (cf 48) (ci 55) (ci 56) (ci 64) (cf 49) (cf 50) (cf 51) (cf 53) (cf 54) (cf 55) (ci 0)
  exact ⟨o, _, e1, q_firstFlood _ _ _ _ _ _ _ _ , h1, ⟨hC.1, hC.2.1, h2.symm, wh_n (ne4_1 h2) rfl, hC.2.2.2.2⟩, u20, u21, u23, u24, u64, u65, u66, u67, u68, u69, u70⟩
set_option maxHeartbeats 2000000 in
theorem pT_44 {cap : Nat} (hcap : cap < 2 ^ 15) {ci : Nat → Int32} {cf : Nat → Nat → Int32} {mi : Nat → Int32} {mf : Nat → Nat → Int32} {ri : Nat → Int32} {rf : Nat → Nat → Int32} {kl kb kf ks : Nat → Int32} {kw : Nat → Nat → Int32} {mlM mbM mfM msM : Nat → Int32} {mwM : Nat → Nat → Int32} (hr : rlT cap ci cf mi mf ri rf kl kb kf ks kw mlM mbM mfM msM mwM) (x1 : Int32) : ∃ o q, f_X10_lace x1 (ci 18) (ci 19) (ci 20) (ci 21) (cf 13) (ci 22) (ci 23) kl kb kf ks kw (cf 14) (ci 66) (ci 67) (cf 50) (cf 53) (cf 54) (ci 0) = some o ∧ f_X12_lace x1 (mi 0) (mi 1) (mi 2) (ri 2) (ri 3) (rf 0) (rf 1) (rf 2) (rf 4) (rf 5) (mf 1) (mf 3) (mi 11) (mf 5) (mf 6) (mf 7) (mf 8) (mi 13) = some q ∧ o.1 = q.1 ∧ rlT (cap + 1) (up ci [(0, o.2.2.2.2.2.2.2.2.2.2), (18, o.2.1), (22, o.2.2.1), (23, o.2.2.2.1)]) (up cf [(14, o.2.2.2.2.2.2.2.2.2.1)]) (up mi [(0, q.2.1), (1, q.2.2.1), (2, q.2.2.2.1), (11, q.2.2.2.2.2.2.1), (13, q.2.2.2.2.2.2.2.2.2.2.2)]) (up mf [(1, q.2.2.2.2.1), (3, q.2.2.2.2.2.1), (5, q.2.2.2.2.2.2.2.1), (6, q.2.2.2.2.2.2.2.2.1), (7, q.2.2.2.2.2.2.2.2.2.1), (8, q.2.2.2.2.2.2.2.2.2.2.1)]) ri rf (o.2.2.2.2.1) (o.2.2.2.2.2.1) (o.2.2.2.2.2.2.1) (o.2.2.2.2.2.2.2.1) (o.2.2.2.2.2.2.2.2.1) mlM mbM mfM msM mwM := by
  obtain ⟨R, l, hC, hR, D, D2, hN, hM, hK⟩ := hr
  obtain ⟨d64, d65, d66, d67, d68, d69, d70, d71, dk, dw, db, hm, da, du, hb, hs, hbw, hbd⟩ := id D
  obtain ⟨r0, r1, r2, r3, r4, r5, r6, r7, ek, ew, eb, hm2, ea, eu, hb2, hs2, hbw2, hbd2⟩ := id D2
  have T : tR R (cf 49) (cf 50) (cf 51) (cf 53) (cf 54) := ⟨dk, dw, db, da, du⟩
  have T2 : tR R (rf 0) (rf 1) (rf 2) (rf 4) (rf 5) := ⟨ek, ew, eb, ea, eu⟩
  rw [d66, d67, r2, r3]
  obtain ⟨o, q, e1, e2, h1, h2, h3, h5, h6, h7, h8⟩ := j_lace hR hN hM T T2 x1 (cf 14) (ci 0) (mi 0) (mi 1) (mi 2) (mf 5) (mf 6) (mf 7) (mf 8) (mi 13)
  exact ⟨o, q, e1, e2, h1.symm, R, l, ⟨hC.1, hC.2.1, h3, wh_n h6 h5, hC.2.2.2.2⟩, hR, D, D2, nowE_up (Nat.le_succ _) h7, memE_up (Nat.le_succ _) h8, mrkE_up (Nat.le_succ _) hK⟩
set_option maxHeartbeats 2000000 in
theorem pU_44 {ci : Nat → Int32} {cf : Nat → Nat → Int32} {mi : Nat → Int32} {mf : Nat → Nat → Int32} (hr : rlU ci cf mi mf) (x1 : Int32) {kl kb kf ks mlM mbM mfM msM : Nat → Int32} {kw mwM : Nat → Nat → Int32} : ∃ o q, f_X10_lace x1 (ci 18) (ci 19) (ci 20) (ci 21) (cf 13) (ci 22) (ci 23) kl kb kf ks kw (cf 14) (ci 66) (ci 67) (cf 50) (cf 53) (cf 54) (ci 0) = some o ∧ f_X12_laceN x1 (mi 0) (mi 1) (mi 2) (mf 1) = some q ∧ o.1 = q.1 ∧ rlU (up ci [(0, o.2.2.2.2.2.2.2.2.2.2), (18, o.2.1), (22, o.2.2.1), (23, o.2.2.2.1)]) (up cf [(14, o.2.2.2.2.2.2.2.2.2.1)]) (up mi [(0, q.2.1), (1, q.2.2.1), (2, q.2.2.2)]) mf := by
  obtain ⟨hC, u20, u21, u23, u24, u64, u65, u66, u67, u68, u69, u70⟩ := hr
  rw [u67]
  exact ⟨_, _, n_lace x1 (ci 18) (ci 19) (ci 20) (ci 21) (cf 13) (ci 22) (ci 23) kl kb kf ks kw (cf 14) (ci 66) (cf 50) (cf 53) (cf 54) (ci 0), q_lace _ _ _ _ _ , rfl, ⟨hC.1, hC.2.1, rfl, wh_n (show ¬ (1 : Int32) = 4 by decide) rfl, hC.2.2.2.2⟩, u20, u21, u23, u24, u64, u65, u66, u67, u68, u69, u70⟩
set_option maxHeartbeats 2000000 in
theorem pT_45 {cap : Nat} (hcap : cap < 2 ^ 15) {ci : Nat → Int32} {cf : Nat → Nat → Int32} {mi : Nat → Int32} {mf : Nat → Nat → Int32} {ri : Nat → Int32} {rf : Nat → Nat → Int32} {kl kb kf ks : Nat → Int32} {kw : Nat → Nat → Int32} {mlM mbM mfM msM : Nat → Int32} {mwM : Nat → Nat → Int32} (hr : rlT cap ci cf mi mf ri rf kl kb kf ks kw mlM mbM mfM msM mwM) (x1 : Int32) : ∃ o q, f_X10_ease x1 (ci 18) (ci 19) (ci 20) (ci 21) (cf 13) (ci 22) (ci 23) kl kb kf ks kw (cf 14) (ci 66) (ci 67) (cf 50) (cf 53) (cf 54) (ci 0) = some o ∧ f_X12_ease x1 (mi 0) (mi 1) (mi 2) (ri 2) (ri 3) (rf 0) (rf 1) (rf 2) (rf 4) (rf 5) (mf 1) (mf 3) (mi 11) (mf 5) (mf 6) (mf 7) (mf 8) (mi 13) = some q ∧ o.1 = q.1 ∧ rlT (cap + 1) (up ci [(0, o.2.2.2.2.2.2.2.2.2.2), (18, o.2.1), (22, o.2.2.1), (23, o.2.2.2.1)]) (up cf [(14, o.2.2.2.2.2.2.2.2.2.1)]) (up mi [(0, q.2.1), (1, q.2.2.1), (2, q.2.2.2.1), (11, q.2.2.2.2.2.2.1), (13, q.2.2.2.2.2.2.2.2.2.2.2)]) (up mf [(1, q.2.2.2.2.1), (3, q.2.2.2.2.2.1), (5, q.2.2.2.2.2.2.2.1), (6, q.2.2.2.2.2.2.2.2.1), (7, q.2.2.2.2.2.2.2.2.2.1), (8, q.2.2.2.2.2.2.2.2.2.2.1)]) ri rf (o.2.2.2.2.1) (o.2.2.2.2.2.1) (o.2.2.2.2.2.2.1) (o.2.2.2.2.2.2.2.1) (o.2.2.2.2.2.2.2.2.1) mlM mbM mfM msM mwM := by
  obtain ⟨R, l, hC, hR, D, D2, hN, hM, hK⟩ := hr
  obtain ⟨d64, d65, d66, d67, d68, d69, d70, d71, dk, dw, db, hm, da, du, hb, hs, hbw, hbd⟩ := id D
  obtain ⟨r0, r1, r2, r3, r4, r5, r6, r7, ek, ew, eb, hm2, ea, eu, hb2, hs2, hbw2, hbd2⟩ := id D2
  have T : tR R (cf 49) (cf 50) (cf 51) (cf 53) (cf 54) := ⟨dk, dw, db, da, du⟩
  have T2 : tR R (rf 0) (rf 1) (rf 2) (rf 4) (rf 5) := ⟨ek, ew, eb, ea, eu⟩
  rw [d66, d67, r2, r3]
  obtain ⟨o, q, e1, e2, h1, h2, h3, h5, h6, h7, h8⟩ := j_ease hR hN hM T T2 x1 (cf 14) (ci 0) (mi 0) (mi 1) (mi 2) (mf 5) (mf 6) (mf 7) (mf 8) (mi 13)
  exact ⟨o, q, e1, e2, h1.symm, R, l, ⟨hC.1, hC.2.1, h3, wh_n h6 h5, hC.2.2.2.2⟩, hR, D, D2, nowE_up (Nat.le_succ _) h7, memE_up (Nat.le_succ _) h8, mrkE_up (Nat.le_succ _) hK⟩
set_option maxHeartbeats 2000000 in
theorem pU_45 {ci : Nat → Int32} {cf : Nat → Nat → Int32} {mi : Nat → Int32} {mf : Nat → Nat → Int32} (hr : rlU ci cf mi mf) (x1 : Int32) {kl kb kf ks mlM mbM mfM msM : Nat → Int32} {kw mwM : Nat → Nat → Int32} : ∃ o q, f_X10_ease x1 (ci 18) (ci 19) (ci 20) (ci 21) (cf 13) (ci 22) (ci 23) kl kb kf ks kw (cf 14) (ci 66) (ci 67) (cf 50) (cf 53) (cf 54) (ci 0) = some o ∧ f_X12_easeN x1 (mi 0) (mi 1) (mi 2) (mf 1) = some q ∧ o.1 = q.1 ∧ rlU (up ci [(0, o.2.2.2.2.2.2.2.2.2.2), (18, o.2.1), (22, o.2.2.1), (23, o.2.2.2.1)]) (up cf [(14, o.2.2.2.2.2.2.2.2.2.1)]) (up mi [(0, q.2.1), (1, q.2.2.1), (2, q.2.2.2)]) mf := by
  obtain ⟨hC, u20, u21, u23, u24, u64, u65, u66, u67, u68, u69, u70⟩ := hr
  rw [u67]
  exact ⟨_, _, n_ease x1 (ci 18) (ci 19) (ci 20) (ci 21) (cf 13) (ci 22) (ci 23) kl kb kf ks kw (cf 14) (ci 66) (cf 50) (cf 53) (cf 54) (ci 0), q_ease _ _ _ _ _ , rfl, ⟨hC.1, hC.2.1, rfl, wh_n (show ¬ (1 : Int32) = 4 by decide) rfl, hC.2.2.2.2⟩, u20, u21, u23, u24, u64, u65, u66, u67, u68, u69, u70⟩
set_option maxHeartbeats 2000000 in
theorem pT_46 {cap : Nat} (hcap : cap < 2 ^ 15) {ci : Nat → Int32} {cf : Nat → Nat → Int32} {mi : Nat → Int32} {mf : Nat → Nat → Int32} {ri : Nat → Int32} {rf : Nat → Nat → Int32} {kl kb kf ks : Nat → Int32} {kw : Nat → Nat → Int32} {mlM mbM mfM msM : Nat → Int32} {mwM : Nat → Nat → Int32} (hr : rlT cap ci cf mi mf ri rf kl kb kf ks kw mlM mbM mfM msM mwM) (x1 : Int32) : ∃ o q, f_X10_mend x1 (ci 18) (ci 19) (ci 20) (ci 21) (cf 13) (ci 22) (ci 23) kl kb kf ks kw (ci 67) (ci 0) = some o ∧ f_X12_mend x1 (mi 0) (mi 1) (mi 2) (ri 3) (mf 1) (mf 3) (mi 11) = some q ∧ o.1 = q.1 ∧ rlT (cap + 1) (up ci [(0, o.2.2.2.2.2.2.2.2.2.2), (19, o.2.1), (22, o.2.2.2.1), (23, o.2.2.2.2.1)]) (up cf [(13, o.2.2.1)]) (up mi [(0, q.2.1), (1, q.2.2.1), (2, q.2.2.2.1), (11, q.2.2.2.2.2.2)]) (up mf [(1, q.2.2.2.2.1), (3, q.2.2.2.2.2.1)]) ri rf (o.2.2.2.2.2.1) (o.2.2.2.2.2.2.1) (o.2.2.2.2.2.2.2.1) (o.2.2.2.2.2.2.2.2.1) (o.2.2.2.2.2.2.2.2.2.1) mlM mbM mfM msM mwM := by
  obtain ⟨R, l, hC, hR, D, D2, hN, hM, hK⟩ := hr
  obtain ⟨d64, d65, d66, d67, d68, d69, d70, d71, dk, dw, db, hm, da, du, hb, hs, hbw, hbd⟩ := id D
  obtain ⟨r0, r1, r2, r3, r4, r5, r6, r7, ek, ew, eb, hm2, ea, eu, hb2, hs2, hbw2, hbd2⟩ := id D2
  have T : tR R (cf 49) (cf 50) (cf 51) (cf 53) (cf 54) := ⟨dk, dw, db, da, du⟩
  have T2 : tR R (rf 0) (rf 1) (rf 2) (rf 4) (rf 5) := ⟨ek, ew, eb, ea, eu⟩
  rw [d67, r3]
  obtain ⟨o, q, e1, e2, h1, h2, h3, h5, h6, h7, h8⟩ := j_mend hR hN hM x1 (ci 0) (mi 0) (mi 1) (mi 2)
  exact ⟨o, q, e1, e2, h1.symm, R, l, ⟨hC.1, hC.2.1, h3, wh_n h6 h5, hC.2.2.2.2⟩, hR, D, D2, nowE_up (Nat.le_succ _) h7, memE_up (Nat.le_succ _) h8, mrkE_up (Nat.le_succ _) hK⟩
set_option maxHeartbeats 2000000 in
theorem pU_46 {ci : Nat → Int32} {cf : Nat → Nat → Int32} {mi : Nat → Int32} {mf : Nat → Nat → Int32} (hr : rlU ci cf mi mf) (x1 : Int32) {kl kb kf ks mlM mbM mfM msM : Nat → Int32} {kw mwM : Nat → Nat → Int32} : ∃ o q, f_X10_mend x1 (ci 18) (ci 19) (ci 20) (ci 21) (cf 13) (ci 22) (ci 23) kl kb kf ks kw (ci 67) (ci 0) = some o ∧ f_X12_mendN x1 (mi 0) (mi 1) (mi 2) (mf 1) (mf 3) (mi 11) = some q ∧ o.1 = q.1 ∧ rlU (up ci [(0, o.2.2.2.2.2.2.2.2.2.2), (19, o.2.1), (22, o.2.2.2.1), (23, o.2.2.2.2.1)]) (up cf [(13, o.2.2.1)]) (up mi [(0, q.2.1), (1, q.2.2.1), (2, q.2.2.2.1), (11, q.2.2.2.2.2.2)]) (up mf [(1, q.2.2.2.2.1), (3, q.2.2.2.2.2.1)]) := by
  obtain ⟨hC, u20, u21, u23, u24, u64, u65, u66, u67, u68, u69, u70⟩ := hr
  rw [u67]
  exact ⟨_, _, n_mend x1 (ci 18) (ci 19) (ci 20) (ci 21) (cf 13) (ci 22) (ci 23) kl kb kf ks kw (ci 0), q_mend _ _ _ _ _ _ _ , rfl, ⟨hC.1, hC.2.1, rfl, wh_n (show ¬ (1 : Int32) = 4 by decide) rfl, hC.2.2.2.2⟩, u20, u21, u23, u24, u64, u65, u66, u67, u68, u69, u70⟩
set_option maxHeartbeats 2000000 in
theorem pT_47 {cap : Nat} (hcap : cap < 2 ^ 15) {ci : Nat → Int32} {cf : Nat → Nat → Int32} {mi : Nat → Int32} {mf : Nat → Nat → Int32} {ri : Nat → Int32} {rf : Nat → Nat → Int32} {kl kb kf ks : Nat → Int32} {kw : Nat → Nat → Int32} {mlM mbM mfM msM : Nat → Int32} {mwM : Nat → Nat → Int32} (hr : rlT cap ci cf mi mf ri rf kl kb kf ks kw mlM mbM mfM msM mwM) (x1 : Int32) : ∃ o q, f_X10_rain x1 (ci 18) (ci 19) (ci 20) (ci 21) (cf 13) (ci 22) (ci 23) kl kb kf ks kw (ci 66) (ci 0) = some o ∧ f_X12_rain x1 (mi 0) (mi 1) (mi 2) (mf 1) (mf 3) (mi 11) = some q ∧ o.1 = q.1 ∧ rlT (cap + 1) (up ci [(0, o.2.2.2.2.2.2.2.2.2), (20, o.2.1), (22, o.2.2.1), (23, o.2.2.2.1)]) cf (up mi [(0, q.2.1), (1, q.2.2.1), (2, q.2.2.2.1), (11, q.2.2.2.2.2.2)]) (up mf [(1, q.2.2.2.2.1), (3, q.2.2.2.2.2.1)]) ri rf (o.2.2.2.2.1) (o.2.2.2.2.2.1) (o.2.2.2.2.2.2.1) (o.2.2.2.2.2.2.2.1) (o.2.2.2.2.2.2.2.2.1) mlM mbM mfM msM mwM := by
  obtain ⟨R, l, hC, hR, D, D2, hN, hM, hK⟩ := hr
  obtain ⟨d64, d65, d66, d67, d68, d69, d70, d71, dk, dw, db, hm, da, du, hb, hs, hbw, hbd⟩ := id D
  obtain ⟨r0, r1, r2, r3, r4, r5, r6, r7, ek, ew, eb, hm2, ea, eu, hb2, hs2, hbw2, hbd2⟩ := id D2
  have T : tR R (cf 49) (cf 50) (cf 51) (cf 53) (cf 54) := ⟨dk, dw, db, da, du⟩
  have T2 : tR R (rf 0) (rf 1) (rf 2) (rf 4) (rf 5) := ⟨ek, ew, eb, ea, eu⟩
  rw [d66]
  obtain ⟨o, q, e1, e2, h1, h2, h3, h5, h6, h7, h8⟩ := j_rain hR hN hM x1 (ci 0) (mi 0) (mi 1) (mi 2)
  exact ⟨o, q, e1, e2, h1.symm, R, l, ⟨hC.1, hC.2.1, h3, wh_n h6 h5, hC.2.2.2.2⟩, hR, D, D2, nowE_up (Nat.le_succ _) h7, memE_up (Nat.le_succ _) h8, mrkE_up (Nat.le_succ _) hK⟩
set_option maxHeartbeats 2000000 in
theorem pU_47 {ci : Nat → Int32} {cf : Nat → Nat → Int32} {mi : Nat → Int32} {mf : Nat → Nat → Int32} (hr : rlU ci cf mi mf) (x1 : Int32) {kl kb kf ks mlM mbM mfM msM : Nat → Int32} {kw mwM : Nat → Nat → Int32} : ∃ o q, f_X10_rain x1 (ci 18) (ci 19) (ci 20) (ci 21) (cf 13) (ci 22) (ci 23) kl kb kf ks kw (ci 66) (ci 0) = some o ∧ f_X12_rainN x1 (mi 0) (mi 1) (mi 2) = some q ∧ o.1 = q.1 ∧ rlU (up ci [(0, o.2.2.2.2.2.2.2.2.2), (20, o.2.1), (22, o.2.2.1), (23, o.2.2.2.1)]) cf (up mi [(0, q.2.1), (1, q.2.2.1), (2, q.2.2.2)]) mf := by
  obtain ⟨hC, u20, u21, u23, u24, u64, u65, u66, u67, u68, u69, u70⟩ := hr
  rw [u66]
  exact ⟨_, _, n_rain x1 (ci 18) (ci 19) (ci 20) (ci 21) (cf 13) (ci 22) (ci 23) kl kb kf ks kw (ci 0), q_rain _ _ _ _ , rfl, ⟨hC.1, hC.2.1, rfl, wh_n (show ¬ (1 : Int32) = 4 by decide) rfl, hC.2.2.2.2⟩, u20, u21, u23, u24, u64, u65, u66, u67, u68, u69, u70⟩
set_option maxHeartbeats 2000000 in
theorem pT_48 {cap : Nat} (hcap : cap < 2 ^ 15) {ci : Nat → Int32} {cf : Nat → Nat → Int32} {mi : Nat → Int32} {mf : Nat → Nat → Int32} {ri : Nat → Int32} {rf : Nat → Nat → Int32} {kl kb kf ks : Nat → Int32} {kw : Nat → Nat → Int32} {mlM mbM mfM msM : Nat → Int32} {mwM : Nat → Nat → Int32} (hr : rlT cap ci cf mi mf ri rf kl kb kf ks kw mlM mbM mfM msM mwM) : ∃ o q, f_X10_year (ci 18) (ci 19) (ci 20) (ci 21) (cf 13) (ci 22) (ci 23) kl kb kf ks kw (cf 43) (cf 44) (cf 45) (cf 46) (cf 47) (ci 57) (ci 58) (ci 59) (ci 64) (ci 66) (ci 67) (cf 49) (cf 50) (cf 51) (cf 53) (cf 54) (cf 55) (ci 0) = some o ∧ f_X12_year (mi 0) (mi 1) (mi 2) (ri 0) (ri 2) (ri 3) (rf 0) (rf 1) (rf 2) (rf 4) (rf 5) (rf 6) (mf 1) (mf 3) (mi 11) (mf 5) (mf 6) (mf 7) (mf 8) (mi 13) = some q ∧ o.1 = q.1 ∧ rlT (cap + 1) (up ci [(0, o.2.2.2.2.2.2.2.2.2.2.2.2.2.2.2.2.2.2.2.2.2), (18, o.2.1), (19, o.2.2.1), (20, o.2.2.2.1), (21, o.2.2.2.2.1), (22, o.2.2.2.2.2.2.1), (23, o.2.2.2.2.2.2.2.1), (57, o.2.2.2.2.2.2.2.2.2.2.2.2.2.2.2.2.2.2.1), (58, o.2.2.2.2.2.2.2.2.2.2.2.2.2.2.2.2.2.2.2.1), (59, o.2.2.2.2.2.2.2.2.2.2.2.2.2.2.2.2.2.2.2.2.1)]) (up cf [(13, o.2.2.2.2.2.1), (43, o.2.2.2.2.2.2.2.2.2.2.2.2.2.1), (44, o.2.2.2.2.2.2.2.2.2.2.2.2.2.2.1), (45, o.2.2.2.2.2.2.2.2.2.2.2.2.2.2.2.1), (46, o.2.2.2.2.2.2.2.2.2.2.2.2.2.2.2.2.1), (47, o.2.2.2.2.2.2.2.2.2.2.2.2.2.2.2.2.2.1)]) (up mi [(0, q.2.1), (1, q.2.2.1), (2, q.2.2.2.1), (11, q.2.2.2.2.2.2.1), (13, q.2.2.2.2.2.2.2.2.2.2.2)]) (up mf [(1, q.2.2.2.2.1), (3, q.2.2.2.2.2.1), (5, q.2.2.2.2.2.2.2.1), (6, q.2.2.2.2.2.2.2.2.1), (7, q.2.2.2.2.2.2.2.2.2.1), (8, q.2.2.2.2.2.2.2.2.2.2.1)]) ri rf (o.2.2.2.2.2.2.2.2.1) (o.2.2.2.2.2.2.2.2.2.1) (o.2.2.2.2.2.2.2.2.2.2.1) (o.2.2.2.2.2.2.2.2.2.2.2.1) (o.2.2.2.2.2.2.2.2.2.2.2.2.1) mlM mbM mfM msM mwM := by
  obtain ⟨R, l, hC, hR, D, D2, hN, hM, hK⟩ := hr
  obtain ⟨d64, d65, d66, d67, d68, d69, d70, d71, dk, dw, db, hm, da, du, hb, hs, hbw, hbd⟩ := id D
  obtain ⟨r0, r1, r2, r3, r4, r5, r6, r7, ek, ew, eb, hm2, ea, eu, hb2, hs2, hbw2, hbd2⟩ := id D2
  have T : tR R (cf 49) (cf 50) (cf 51) (cf 53) (cf 54) := ⟨dk, dw, db, da, du⟩
  have T2 : tR R (rf 0) (rf 1) (rf 2) (rf 4) (rf 5) := ⟨ek, ew, eb, ea, eu⟩
  rw [d64, d66, d67, r0, r2, r3]
  obtain ⟨o, q, e1, e2, h1, h2, h3, h5, h6, h7, h8⟩ := j_year hR hN hM T T2 hb hb2 hcap (cf 43) (cf 44) (cf 45) (cf 46) (cf 47) (ci 57) (ci 58) (ci 59) (ci 0) (mi 0) (mi 1) (mi 2) (mf 5) (mf 6) (mf 7) (mf 8) (mi 13)
  exact ⟨o, q, e1, e2, h1.symm, R, l, ⟨hC.1, hC.2.1, h3, wh_n h6 h5, hC.2.2.2.2⟩, hR, D, D2, h7, memE_up (Nat.le_succ _) h8, mrkE_up (Nat.le_succ _) hK⟩
set_option maxHeartbeats 2000000 in
theorem pU_48 {ci : Nat → Int32} {cf : Nat → Nat → Int32} {mi : Nat → Int32} {mf : Nat → Nat → Int32} (hr : rlU ci cf mi mf) {kl kb kf ks mlM mbM mfM msM : Nat → Int32} {kw mwM : Nat → Nat → Int32} : ∃ o q, f_X10_year (ci 18) (ci 19) (ci 20) (ci 21) (cf 13) (ci 22) (ci 23) kl kb kf ks kw (cf 43) (cf 44) (cf 45) (cf 46) (cf 47) (ci 57) (ci 58) (ci 59) (ci 64) (ci 66) (ci 67) (cf 49) (cf 50) (cf 51) (cf 53) (cf 54) (cf 55) (ci 0) = some o ∧ f_X12_yearN (mi 0) (mi 1) (mi 2) = some q ∧ o.1 = q.1 ∧ rlU (up ci [(0, o.2.2.2.2.2.2.2.2.2.2.2.2.2.2.2.2.2.2.2.2.2), (18, o.2.1), (19, o.2.2.1), (20, o.2.2.2.1), (21, o.2.2.2.2.1), (22, o.2.2.2.2.2.2.1), (23, o.2.2.2.2.2.2.2.1), (57, o.2.2.2.2.2.2.2.2.2.2.2.2.2.2.2.2.2.2.1), (58, o.2.2.2.2.2.2.2.2.2.2.2.2.2.2.2.2.2.2.2.1), (59, o.2.2.2.2.2.2.2.2.2.2.2.2.2.2.2.2.2.2.2.2.1)]) (up cf [(13, o.2.2.2.2.2.1), (43, o.2.2.2.2.2.2.2.2.2.2.2.2.2.1), (44, o.2.2.2.2.2.2.2.2.2.2.2.2.2.2.1), (45, o.2.2.2.2.2.2.2.2.2.2.2.2.2.2.2.1), (46, o.2.2.2.2.2.2.2.2.2.2.2.2.2.2.2.2.1), (47, o.2.2.2.2.2.2.2.2.2.2.2.2.2.2.2.2.2.1)]) (up mi [(0, q.2.1), (1, q.2.2.1), (2, q.2.2.2)]) mf := by
  obtain ⟨hC, u20, u21, u23, u24, u64, u65, u66, u67, u68, u69, u70⟩ := hr
  rw [u66]
  exact ⟨_, _, n_year (ci 18) (ci 19) (ci 20) (ci 21) (cf 13) (ci 22) (ci 23) kl kb kf ks kw (cf 43) (cf 44) (cf 45) (cf 46) (cf 47) (ci 57) (ci 58) (ci 59) (ci 64) (ci 67) (cf 49) (cf 50) (cf 51) (cf 53) (cf 54) (cf 55) (ci 0), q_year _ _ _ , rfl, ⟨hC.1, hC.2.1, rfl, wh_n (show ¬ (1 : Int32) = 4 by decide) rfl, hC.2.2.2.2⟩, u20, u21, u23, u24, u64, u65, u66, u67, u68, u69, u70⟩
set_option maxHeartbeats 2000000 in
theorem pT_49 {cap : Nat} (hcap : cap < 2 ^ 15) {ci : Nat → Int32} {cf : Nat → Nat → Int32} {mi : Nat → Int32} {mf : Nat → Nat → Int32} {ri : Nat → Int32} {rf : Nat → Nat → Int32} {kl kb kf ks : Nat → Int32} {kw : Nat → Nat → Int32} {mlM mbM mfM msM : Nat → Int32} {mwM : Nat → Nat → Int32} (hr : rlT cap ci cf mi mf ri rf kl kb kf ks kw mlM mbM mfM msM mwM) (x1 : Int32) : ∃ o q, f_X10_seed x1 (ci 21) (ci 66) (ci 0) = some o ∧ f_X12_seed x1 (mi 0) (mi 1) (mi 2) (mf 1) = some q ∧ o.1 = q.1 ∧ rlT (cap + 1) (up ci [(0, o.2.2), (21, o.2.1)]) cf (up mi [(0, q.2.1), (1, q.2.2.1), (2, q.2.2.2.1)]) (up mf [(1, q.2.2.2.2)]) ri rf kl kb kf ks kw mlM mbM mfM msM mwM := by
  obtain ⟨R, l, hC, hR, D, D2, hN, hM, hK⟩ := hr
  obtain ⟨d64, d65, d66, d67, d68, d69, d70, d71, dk, dw, db, hm, da, du, hb, hs, hbw, hbd⟩ := id D
  obtain ⟨r0, r1, r2, r3, r4, r5, r6, r7, ek, ew, eb, hm2, ea, eu, hb2, hs2, hbw2, hbd2⟩ := id D2
  have T : tR R (cf 49) (cf 50) (cf 51) (cf 53) (cf 54) := ⟨dk, dw, db, da, du⟩
  have T2 : tR R (rf 0) (rf 1) (rf 2) (rf 4) (rf 5) := ⟨ek, ew, eb, ea, eu⟩
  obtain ⟨⟨L, U, f, sd, V⟩, ⟨a18, a19, a20, a21, hwr⟩, hv, ⟨hL, hU, hdj, hsd, hVc⟩, hf9⟩ := id hN
  replace a18 : ci 18 = nI L := a18
  replace a19 : ci 19 = nI U := a19
  replace a20 : ci 20 = nI f := a20
  replace a21 : ci 21 = nI sd := a21
  replace hwr : rw_ (R 0 1) (cf 13) V := hwr
  replace hv : vR (R 0 1) (mf 1) L U f sd V := hv
  replace hL : L < 2 ^ R 0 1 := hL
  replace hU : U < 2 ^ R 0 1 := hU
  replace hdj : dj L U := hdj
  replace hsd : sd ≤ 65536 := hsd
  replace hVc : ∀ j, j < R 0 1 → V j ≤ cap := hVc
  replace hf9 : f ≤ 999 := hf9
  have hV : ∀ j, j < R 0 1 → V j < 2 ^ 20 := fun j hj => Nat.lt_of_le_of_lt (hVc j hj) (Nat.lt_trans hcap (by decide))
  have hf : f < 2 ^ 16 := Nat.lt_of_le_of_lt hf9 (by decide)
  have hq : qOK R cap (L, U, sd, V) := ⟨hL, hU, hdj, hsd, hVc⟩
  rw [a21, d66]
  obtain ⟨ans, t, sd', v', z0, z1, z2, z3⟩ := j_seed hR hv hsd x1 (ci 0) (mi 0) (mi 1) (mi 2)
  have h4 : ¬ t = 4 := nt_seed _ _ _ _ _ z1
  exact ⟨_, _, z1, z2, rfl, R, l, ⟨hC.1, hC.2.1, rfl, wh_n h4 rfl, hC.2.2.2.2⟩, hR, D, D2, ⟨(L, U, f, sd', V), ⟨a18, a19, a20, rfl, hwr⟩, z3, ⟨hL, hU, hdj, z0, fun j hj => Nat.le_succ_of_le (hVc j hj)⟩, hf9⟩, memE_up (Nat.le_succ _) hM, mrkE_up (Nat.le_succ _) hK⟩
set_option maxHeartbeats 2000000 in
theorem pU_49 {ci : Nat → Int32} {cf : Nat → Nat → Int32} {mi : Nat → Int32} {mf : Nat → Nat → Int32} (hr : rlU ci cf mi mf) (x1 : Int32) : ∃ o q, f_X10_seed x1 (ci 21) (ci 66) (ci 0) = some o ∧ f_X12_seedN x1 (mi 0) (mi 1) (mi 2) = some q ∧ o.1 = q.1 ∧ rlU (up ci [(0, o.2.2), (21, o.2.1)]) cf (up mi [(0, q.2.1), (1, q.2.2.1), (2, q.2.2.2)]) mf := by
  obtain ⟨hC, u20, u21, u23, u24, u64, u65, u66, u67, u68, u69, u70⟩ := hr
  rw [u66]
  exact ⟨_, _, n_seed x1 (ci 21) (ci 0), q_seed _ _ _ _ , rfl, ⟨hC.1, hC.2.1, rfl, wh_n (show ¬ (1 : Int32) = 4 by decide) rfl, hC.2.2.2.2⟩, u20, u21, u23, u24, u64, u65, u66, u67, u68, u69, u70⟩
set_option maxHeartbeats 2000000 in
theorem pT_50 {cap : Nat} (hcap : cap < 2 ^ 15) {ci : Nat → Int32} {cf : Nat → Nat → Int32} {mi : Nat → Int32} {mf : Nat → Nat → Int32} {ri : Nat → Int32} {rf : Nat → Nat → Int32} {kl kb kf ks : Nat → Int32} {kw : Nat → Nat → Int32} {mlM mbM mfM msM : Nat → Int32} {mwM : Nat → Nat → Int32} (hr : rlT cap ci cf mi mf ri rf kl kb kf ks kw mlM mbM mfM msM mwM) : ∃ o q, f_X10_undo (ci 18) (ci 19) (ci 20) (ci 21) (cf 13) (ci 22) (ci 23) kl kb kf ks kw (ci 0) = some o ∧ f_X12_undo (mi 0) (mi 1) (mi 2) (mf 1) (mf 3) (mi 11) = some q ∧ o.1 = q.1 ∧ rlT (cap + 1) (up ci [(0, o.2.2.2.2.2.2.2), (18, o.2.1), (19, o.2.2.1), (20, o.2.2.2.1), (21, o.2.2.2.2.1), (23, o.2.2.2.2.2.2.1)]) (up cf [(13, o.2.2.2.2.2.1)]) (up mi [(0, q.2.1), (1, q.2.2.1), (2, q.2.2.2.1), (11, q.2.2.2.2.2)]) (up mf [(1, q.2.2.2.2.1)]) ri rf kl kb kf ks kw mlM mbM mfM msM mwM := by
  obtain ⟨R, l, hC, hR, D, D2, hN, hM, hK⟩ := hr
  obtain ⟨d64, d65, d66, d67, d68, d69, d70, d71, dk, dw, db, hm, da, du, hb, hs, hbw, hbd⟩ := id D
  obtain ⟨r0, r1, r2, r3, r4, r5, r6, r7, ek, ew, eb, hm2, ea, eu, hb2, hs2, hbw2, hbd2⟩ := id D2
  have T : tR R (cf 49) (cf 50) (cf 51) (cf 53) (cf 54) := ⟨dk, dw, db, da, du⟩
  have T2 : tR R (rf 0) (rf 1) (rf 2) (rf 4) (rf 5) := ⟨ek, ew, eb, ea, eu⟩
  obtain ⟨o, q, e1, e2, h1, h2, h3, h5, h6, h7, h8⟩ := j_undo hR hN hM (ci 0) (mi 0) (mi 1) (mi 2)
  exact ⟨o, q, e1, e2, h1.symm, R, l, ⟨hC.1, hC.2.1, h3, wh_n h6 h5, hC.2.2.2.2⟩, hR, D, D2, nowE_up (Nat.le_succ _) h7, memE_up (Nat.le_succ _) h8, mrkE_up (Nat.le_succ _) hK⟩
set_option maxHeartbeats 2000000 in
theorem pU_50 {ci : Nat → Int32} {cf : Nat → Nat → Int32} {mi : Nat → Int32} {mf : Nat → Nat → Int32} (hr : rlU ci cf mi mf) {kl kb kf ks mlM mbM mfM msM : Nat → Int32} {kw mwM : Nat → Nat → Int32} : ∃ o q, f_X10_undo (ci 18) (ci 19) (ci 20) (ci 21) (cf 13) (ci 22) (ci 23) kl kb kf ks kw (ci 0) = some o ∧ f_X12_undoN (mi 0) (mi 1) (mi 2) = some q ∧ o.1 = q.1 ∧ rlU (up ci [(0, o.2.2.2.2.2.2.2), (18, o.2.1), (19, o.2.2.1), (20, o.2.2.2.1), (21, o.2.2.2.2.1), (23, o.2.2.2.2.2.2.1)]) (up cf [(13, o.2.2.2.2.2.1)]) (up mi [(0, q.2.1), (1, q.2.2.1), (2, q.2.2.2)]) mf := by
  obtain ⟨hC, u20, u21, u23, u24, u64, u65, u66, u67, u68, u69, u70⟩ := hr
  rw [u23]
  exact ⟨_, _, n_undo (ci 18) (ci 19) (ci 20) (ci 21) (cf 13) (ci 22) kl kb kf ks kw (ci 0), q_undo _ _ _ , rfl, ⟨hC.1, hC.2.1, rfl, wh_n (show ¬ (6 : Int32) = 4 by decide) rfl, hC.2.2.2.2⟩, (by first | exact u20 | rfl), (by first | exact u21 | rfl), (by first | exact u23 | rfl), (by first | exact u24 | rfl), (by first | exact u64 | rfl), (by first | exact u65 | rfl), (by first | exact u66 | rfl), (by first | exact u67 | rfl), (by first | exact u68 | rfl), (by first | exact u69 | rfl), (by first | exact u70 | rfl)⟩
set_option maxHeartbeats 2000000 in
theorem pT_51 {cap : Nat} (hcap : cap < 2 ^ 15) {ci : Nat → Int32} {cf : Nat → Nat → Int32} {mi : Nat → Int32} {mf : Nat → Nat → Int32} {ri : Nat → Int32} {rf : Nat → Nat → Int32} {kl kb kf ks : Nat → Int32} {kw : Nat → Nat → Int32} {mlM mbM mfM msM : Nat → Int32} {mwM : Nat → Nat → Int32} (hr : rlT cap ci cf mi mf ri rf kl kb kf ks kw mlM mbM mfM msM mwM) : ∃ o q, f_X10_mark (ci 18) (ci 19) (ci 20) (ci 21) (cf 13) (ci 24) mlM mbM mfM msM mwM (ci 66) (ci 0) = some o ∧ f_X12_mark (mi 0) (mi 1) (mi 2) (mf 1) (mf 4) (mi 12) = some q ∧ o.1 = q.1 ∧ rlT (cap + 1) (up ci [(0, o.2.2.2.2.2.2.2), (24, o.2.1)]) cf (up mi [(0, q.2.1), (1, q.2.2.1), (2, q.2.2.2.1), (12, q.2.2.2.2.2)]) (up mf [(4, q.2.2.2.2.1)]) ri rf kl kb kf ks kw (o.2.2.1) (o.2.2.2.1) (o.2.2.2.2.1) (o.2.2.2.2.2.1) (o.2.2.2.2.2.2.1) := by
  obtain ⟨R, l, hC, hR, D, D2, hN, hM, hK⟩ := hr
  obtain ⟨d64, d65, d66, d67, d68, d69, d70, d71, dk, dw, db, hm, da, du, hb, hs, hbw, hbd⟩ := id D
  obtain ⟨r0, r1, r2, r3, r4, r5, r6, r7, ek, ew, eb, hm2, ea, eu, hb2, hs2, hbw2, hbd2⟩ := id D2
  have T : tR R (cf 49) (cf 50) (cf 51) (cf 53) (cf 54) := ⟨dk, dw, db, da, du⟩
  have T2 : tR R (rf 0) (rf 1) (rf 2) (rf 4) (rf 5) := ⟨ek, ew, eb, ea, eu⟩
  rw [d66]
  obtain ⟨o, q, e1, e2, h1, h2, h3, h5, h6, h7⟩ := j_mark hR hN hK (ci 0) (mi 0) (mi 1) (mi 2)
  exact ⟨o, q, e1, e2, h1.symm, R, l, ⟨hC.1, hC.2.1, h3, wh_n h6 h5, hC.2.2.2.2⟩, hR, D, D2, nowE_up (Nat.le_succ _) hN, memE_up (Nat.le_succ _) hM, mrkE_up (Nat.le_succ _) h7⟩
set_option maxHeartbeats 2000000 in
theorem pU_51 {ci : Nat → Int32} {cf : Nat → Nat → Int32} {mi : Nat → Int32} {mf : Nat → Nat → Int32} (hr : rlU ci cf mi mf) {kl kb kf ks mlM mbM mfM msM : Nat → Int32} {kw mwM : Nat → Nat → Int32} : ∃ o q, f_X10_mark (ci 18) (ci 19) (ci 20) (ci 21) (cf 13) (ci 24) mlM mbM mfM msM mwM (ci 66) (ci 0) = some o ∧ f_X12_markN (mi 0) (mi 1) (mi 2) = some q ∧ o.1 = q.1 ∧ rlU (up ci [(0, o.2.2.2.2.2.2.2), (24, o.2.1)]) cf (up mi [(0, q.2.1), (1, q.2.2.1), (2, q.2.2.2)]) mf := by
  obtain ⟨hC, u20, u21, u23, u24, u64, u65, u66, u67, u68, u69, u70⟩ := hr
  rw [u66]
  exact ⟨_, _, n_mark (ci 18) (ci 19) (ci 20) (ci 21) (cf 13) (ci 24) mlM mbM mfM msM mwM (ci 0), q_mark _ _ _ , rfl, ⟨hC.1, hC.2.1, rfl, wh_n (show ¬ (1 : Int32) = 4 by decide) rfl, hC.2.2.2.2⟩, u20, u21, u23, u24, u64, u65, u66, u67, u68, u69, u70⟩
set_option maxHeartbeats 2000000 in
theorem pT_52 {cap : Nat} (hcap : cap < 2 ^ 15) {ci : Nat → Int32} {cf : Nat → Nat → Int32} {mi : Nat → Int32} {mf : Nat → Nat → Int32} {ri : Nat → Int32} {rf : Nat → Nat → Int32} {kl kb kf ks : Nat → Int32} {kw : Nat → Nat → Int32} {mlM mbM mfM msM : Nat → Int32} {mwM : Nat → Nat → Int32} (hr : rlT cap ci cf mi mf ri rf kl kb kf ks kw mlM mbM mfM msM mwM) (x1 : Int32) : ∃ o q, f_X10_back x1 (ci 18) (ci 19) (ci 20) (ci 21) (cf 13) (ci 22) (ci 23) (ci 24) mlM mbM mfM msM mwM (ci 0) = some o ∧ f_X12_back x1 (mi 0) (mi 1) (mi 2) (mf 1) (mf 4) (mi 11) (mi 12) = some q ∧ o.1 = q.1 ∧ rlT (cap + 1) (up ci [(0, o.2.2.2.2.2.2.2.2), (18, o.2.1), (19, o.2.2.1), (20, o.2.2.2.1), (21, o.2.2.2.2.1), (22, o.2.2.2.2.2.2.1), (23, o.2.2.2.2.2.2.2.1)]) (up cf [(13, o.2.2.2.2.2.1)]) (up mi [(0, q.2.1), (1, q.2.2.1), (2, q.2.2.2.1), (11, q.2.2.2.2.2)]) (up mf [(1, q.2.2.2.2.1)]) ri rf kl kb kf ks kw mlM mbM mfM msM mwM := by
  obtain ⟨R, l, hC, hR, D, D2, hN, hM, hK⟩ := hr
  obtain ⟨d64, d65, d66, d67, d68, d69, d70, d71, dk, dw, db, hm, da, du, hb, hs, hbw, hbd⟩ := id D
  obtain ⟨r0, r1, r2, r3, r4, r5, r6, r7, ek, ew, eb, hm2, ea, eu, hb2, hs2, hbw2, hbd2⟩ := id D2
  have T : tR R (cf 49) (cf 50) (cf 51) (cf 53) (cf 54) := ⟨dk, dw, db, da, du⟩
  have T2 : tR R (rf 0) (rf 1) (rf 2) (rf 4) (rf 5) := ⟨ek, ew, eb, ea, eu⟩
  obtain ⟨o, q, e1, e2, h1, h2, h3, h5, h6, h7, h8⟩ := j_back hR hN hM hK x1 (ci 0) (mi 0) (mi 1) (mi 2)
  exact ⟨o, q, e1, e2, h1.symm, R, l, ⟨hC.1, hC.2.1, h3, wh_n h6 h5, hC.2.2.2.2⟩, hR, D, D2, nowE_up (Nat.le_succ _) h7, memE_up (Nat.le_succ _) h8, mrkE_up (Nat.le_succ _) hK⟩
set_option maxHeartbeats 2000000 in
theorem pU_52 {ci : Nat → Int32} {cf : Nat → Nat → Int32} {mi : Nat → Int32} {mf : Nat → Nat → Int32} (hr : rlU ci cf mi mf) (x1 : Int32) {kl kb kf ks mlM mbM mfM msM : Nat → Int32} {kw mwM : Nat → Nat → Int32} : ∃ o q, f_X10_back x1 (ci 18) (ci 19) (ci 20) (ci 21) (cf 13) (ci 22) (ci 23) (ci 24) mlM mbM mfM msM mwM (ci 0) = some o ∧ f_X12_backN x1 (mi 0) (mi 1) (mi 2) = some q ∧ o.1 = q.1 ∧ rlU (up ci [(0, o.2.2.2.2.2.2.2.2), (18, o.2.1), (19, o.2.2.1), (20, o.2.2.2.1), (21, o.2.2.2.2.1), (22, o.2.2.2.2.2.2.1), (23, o.2.2.2.2.2.2.2.1)]) (up cf [(13, o.2.2.2.2.2.1)]) (up mi [(0, q.2.1), (1, q.2.2.1), (2, q.2.2.2)]) mf := by
  obtain ⟨hC, u20, u21, u23, u24, u64, u65, u66, u67, u68, u69, u70⟩ := hr
  rw [u24]
  exact ⟨_, _, n_back x1 (ci 18) (ci 19) (ci 20) (ci 21) (cf 13) (ci 22) (ci 23) mlM mbM mfM msM mwM (ci 0), q_back _ _ _ _ , rfl, ⟨hC.1, hC.2.1, rfl, wh_n (show ¬ (1 : Int32) = 4 by decide) rfl, hC.2.2.2.2⟩, (by first | exact u20 | rfl), (by first | exact u21 | rfl), (by first | exact u23 | rfl), (by first | exact u24 | rfl), (by first | exact u64 | rfl), (by first | exact u65 | rfl), (by first | exact u66 | rfl), (by first | exact u67 | rfl), (by first | exact u68 | rfl), (by first | exact u69 | rfl), (by first | exact u70 | rfl)⟩
set_option maxHeartbeats 2000000 in
theorem pT_54 {cap : Nat} (hcap : cap < 2 ^ 15) {ci : Nat → Int32} {cf : Nat → Nat → Int32} {mi : Nat → Int32} {mf : Nat → Nat → Int32} {ri : Nat → Int32} {rf : Nat → Nat → Int32} {kl kb kf ks : Nat → Int32} {kw : Nat → Nat → Int32} {mlM mbM mfM msM : Nat → Int32} {mwM : Nat → Nat → Int32} (hr : rlT cap ci cf mi mf ri rf kl kb kf ks kw mlM mbM mfM msM mwM) (x1 : Int32) : ∃ o q, f_X10_size x1 (ci 1) (ci 20) (ci 21) (ci 23) (ci 24) (ci 64) (ci 65) (ci 66) (ci 67) (ci 68) (ci 69) (ci 70) = some o ∧ f_X12_size x1 (mi 0) (ri 0) (ri 1) (ri 2) (ri 3) (ri 4) (ri 5) (ri 6) (mi 3) (mf 1) (mi 11) (mi 12) = some q ∧ o = q.1 ∧ rlT (cap + 1) ci cf (up mi [(0, q.2)]) mf ri rf kl kb kf ks kw mlM mbM mfM msM mwM := by
  obtain ⟨R, l, hC, hR, D, D2, hN, hM, hK⟩ := hr
  obtain ⟨d64, d65, d66, d67, d68, d69, d70, d71, dk, dw, db, hm, da, du, hb, hs, hbw, hbd⟩ := id D
  obtain ⟨r0, r1, r2, r3, r4, r5, r6, r7, ek, ew, eb, hm2, ea, eu, hb2, hs2, hbw2, hbd2⟩ := id D2
  have T : tR R (cf 49) (cf 50) (cf 51) (cf 53) (cf 54) := ⟨dk, dw, db, da, du⟩
  have T2 : tR R (rf 0) (rf 1) (rf 2) (rf 4) (rf 5) := ⟨ek, ew, eb, ea, eu⟩
  obtain ⟨⟨L, U, f, sd, V⟩, ⟨a18, a19, a20, a21, hwr⟩, hv, ⟨hL, hU, hdj, hsd, hVc⟩, hf9⟩ := id hN
  replace a18 : ci 18 = nI L := a18
  replace a19 : ci 19 = nI U := a19
  replace a20 : ci 20 = nI f := a20
  replace a21 : ci 21 = nI sd := a21
  replace hwr : rw_ (R 0 1) (cf 13) V := hwr
  replace hv : vR (R 0 1) (mf 1) L U f sd V := hv
  replace hL : L < 2 ^ R 0 1 := hL
  replace hU : U < 2 ^ R 0 1 := hU
  replace hdj : dj L U := hdj
  replace hsd : sd ≤ 65536 := hsd
  replace hVc : ∀ j, j < R 0 1 → V j ≤ cap := hVc
  replace hf9 : f ≤ 999 := hf9
  have hV : ∀ j, j < R 0 1 → V j < 2 ^ 20 := fun j hj => Nat.lt_of_le_of_lt (hVc j hj) (Nat.lt_trans hcap (by decide))
  have hf : f < 2 ^ 16 := Nat.lt_of_le_of_lt hf9 (by decide)
  have hq : qOK R cap (L, U, sd, V) := ⟨hL, hU, hdj, hsd, hVc⟩
  have e3 : mi 3 = ci 1 := by obtain ⟨t, -, z1, z2, -⟩ := hC.1; rw [z1, z2]
  have e11 : mi 11 = ci 23 := by obtain ⟨c, o, S, -, z1, z2, -⟩ := id hM; rw [z1, z2]
  have e12 : mi 12 = ci 24 := by obtain ⟨c, S, z1, z2, -⟩ := id hK; rw [z1, z2]
  rw [e3, e11, e12, r0.trans d64.symm, r1.trans d65.symm, r2.trans d66.symm, r3.trans d67.symm, r4.trans d68.symm, r5.trans d69.symm, r6.trans d70.symm]
  obtain ⟨a, z1, z2⟩ := j_size (v := mf 1) (fl := ci 20) (sd := ci 21) (hv.2.2.1.trans a20.symm) (hv.2.2.2.trans a21.symm) x1 (mi 0) (ci 64) (ci 65) (ci 66) (ci 67) (ci 68) (ci 69) (ci 70) (ci 1) (ci 23) (ci 24)
  exact ⟨_, _, z1, z2, rfl, R, l, ⟨hC.1, hC.2.1, hC.2.2.1, hC.2.2.2.1, hC.2.2.2.2⟩, hR, D, D2, nowE_up (Nat.le_succ _) hN, memE_up (Nat.le_succ _) hM, mrkE_up (Nat.le_succ _) hK⟩
set_option maxHeartbeats 2000000 in
theorem pU_54 {ci : Nat → Int32} {cf : Nat → Nat → Int32} {mi : Nat → Int32} {mf : Nat → Nat → Int32} (hr : rlU ci cf mi mf) (x1 : Int32) : ∃ o q, f_X10_size x1 (ci 1) (ci 20) (ci 21) (ci 23) (ci 24) (ci 64) (ci 65) (ci 66) (ci 67) (ci 68) (ci 69) (ci 70) = some o ∧ f_X12_sizeN x1 (mi 0) (mi 3) = some q ∧ o = q.1 ∧ rlU ci cf (up mi [(0, q.2)]) mf := by
  obtain ⟨hC, u20, u21, u23, u24, u64, u65, u66, u67, u68, u69, u70⟩ := hr
  have e3 : mi 3 = ci 1 := by obtain ⟨t, -, z1, z2, -⟩ := hC.1; rw [z1, z2]
  rw [e3, u20, u21, u23, u24, u64, u65, u66, u67, u68, u69, u70]
  obtain ⟨a, z1, z2⟩ := j_sizeN x1 (mi 0) (ci 1)
  exact ⟨_, _, z1, z2, rfl, ⟨hC.1, hC.2.1, hC.2.2.1, hC.2.2.2.1, hC.2.2.2.2⟩, u20, u21, u23, u24, u64, u65, u66, u67, u68, u69, u70⟩
set_option maxHeartbeats 2000000 in
theorem pT_55 {cap : Nat} (hcap : cap < 2 ^ 15) {ci : Nat → Int32} {cf : Nat → Nat → Int32} {mi : Nat → Int32} {mf : Nat → Nat → Int32} {ri : Nat → Int32} {rf : Nat → Nat → Int32} {kl kb kf ks : Nat → Int32} {kw : Nat → Nat → Int32} {mlM mbM mfM msM : Nat → Int32} {mwM : Nat → Nat → Int32} (hr : rlT cap ci cf mi mf ri rf kl kb kf ks kw mlM mbM mfM msM mwM) : ∃ o q, f_X10_trouble (ci 0) = some o ∧ f_X12_trouble (mi 0) (mi 1) = some q ∧ o = q.1 ∧ rlT (cap + 1) ci cf (up mi [(0, q.2)]) mf ri rf kl kb kf ks kw mlM mbM mfM msM mwM := by
  obtain ⟨R, l, hC, hR, D, D2, hN, hM, hK⟩ := hr
  obtain ⟨d64, d65, d66, d67, d68, d69, d70, d71, dk, dw, db, hm, da, du, hb, hs, hbw, hbd⟩ := id D
  obtain ⟨r0, r1, r2, r3, r4, r5, r6, r7, ek, ew, eb, hm2, ea, eu, hb2, hs2, hbw2, hbd2⟩ := id D2
  have T : tR R (cf 49) (cf 50) (cf 51) (cf 53) (cf 54) := ⟨dk, dw, db, da, du⟩
  have T2 : tR R (rf 0) (rf 1) (rf 2) (rf 4) (rf 5) := ⟨ek, ew, eb, ea, eu⟩
  exact ⟨_, _, rfl, rfl, hC.2.2.1.symm, R, l, ⟨hC.1, hC.2.1, hC.2.2.1, hC.2.2.2.1, hC.2.2.2.2⟩, hR, D, D2, nowE_up (Nat.le_succ _) hN, memE_up (Nat.le_succ _) hM, mrkE_up (Nat.le_succ _) hK⟩
set_option maxHeartbeats 2000000 in
theorem pU_55 {ci : Nat → Int32} {cf : Nat → Nat → Int32} {mi : Nat → Int32} {mf : Nat → Nat → Int32} (hr : rlU ci cf mi mf) : ∃ o q, f_X10_trouble (ci 0) = some o ∧ f_X12_trouble (mi 0) (mi 1) = some q ∧ o = q.1 ∧ rlU ci cf (up mi [(0, q.2)]) mf := by
  obtain ⟨hC, u20, u21, u23, u24, u64, u65, u66, u67, u68, u69, u70⟩ := hr
  exact ⟨_, _, rfl, rfl, hC.2.2.1.symm, ⟨hC.1, hC.2.1, hC.2.2.1, hC.2.2.2.1, hC.2.2.2.2⟩, u20, u21, u23, u24, u64, u65, u66, u67, u68, u69, u70⟩
