/-! one call, both sides: what holds again -/
set_option maxHeartbeats 2000000 in
theorem pT_29 {cap : Nat} (hcap : cap < 2 ^ 15) {ci : Nat → Int32} {cf : Nat → Nat → Int32} {mi : Nat → Int32} {mf : Nat → Nat → Int32} {ri : Nat → Int32} {rf : Nat → Nat → Int32} {kl kb kf ks : Nat → Int32} {kw : Nat → Nat → Int32} {mlM mbM mfM msM : Nat → Int32} {mwM : Nat → Nat → Int32} (hr : rlT cap ci cf mi mf ri rf kl kb kf ks kw mlM mbM mfM msM mwM) (x1 : Int32) : ∃ o q, f_X10_needs x1 (ci 18) (ci 20) (cf 14) (cf 15) (cf 16) (cf 17) (cf 18) (ci 25) (ci 26) (ci 27) (ci 66) (ci 67) (cf 49) (cf 50) (cf 51) (cf 53) (cf 54) (ci 0) = some o ∧ f_X12_needs x1 (mi 0) (mi 1) (mi 2) (ri 2) (ri 3) (rf 0) (rf 1) (rf 2) (rf 4) (rf 5) (mf 1) (mf 5) (mf 6) (mf 7) (mf 8) (mi 13) = some q ∧ o.1 = q.1 ∧ rlT (cap + 1) (up ci [(0, o.2.2.2.2.2.2.2.2.2), (25, o.2.2.2.2.2.2.1), (26, o.2.2.2.2.2.2.2.1), (27, o.2.2.2.2.2.2.2.2.1)]) (up cf [(14, o.2.1), (15, o.2.2.1), (16, o.2.2.2.1), (17, o.2.2.2.2.1), (18, o.2.2.2.2.2.1)]) (up mi [(0, q.2.1), (1, q.2.2.1), (2, q.2.2.2.1), (13, q.2.2.2.2.2.2.2.2)]) (up mf [(5, q.2.2.2.2.1), (6, q.2.2.2.2.2.1), (7, q.2.2.2.2.2.2.1), (8, q.2.2.2.2.2.2.2.1)]) ri rf kl kb kf ks kw mlM mbM mfM msM mwM := by
  obtain ⟨R, l, hC, hR, D, D2, hN, hM, hK⟩ := hr
  obtain ⟨d64, d65, d66, d67, d68, d69, d70, d71, dk, dw, db, hm, da, du, hb, hs, hbw, hbd⟩ := id D
  obtain ⟨r0, r1, r2, r3, r4, r5, r6, r7, ek, ew, eb, hm2, ea, eu, hb2, hs2, hbw2, hbd2⟩ := id D2
  have T : tR R (cf 49) (cf 50) (cf 51) (cf 53) (cf 54) := ⟨dk, dw, db, da, du⟩
  have T2 : tR R (rf 0) (rf 1) (rf 2) (rf 4) (rf 5) := ⟨ek, ew, eb, ea, eu⟩
  obtain ⟨⟨L, U, f, sd, V⟩, ⟨a18, a19, a20, a21, hwr⟩, hv, ⟨hL, hU, hdj, hsd, hVc⟩, hf9⟩ := id hN
  replace a18 : ci 18 = nI L := a18
  replace a19 : ci 19 = nI U := a19
  replace a20 : ci 20 = nI f := a20
  replace a21 : ci 21 = nI sd := a21
  replace hwr : rw_ (R 0 1) (cf 13) V := hwr
  replace hv : vR (R 0 1) (mf 1) L U f sd V := hv
  replace hL : L < 2 ^ R 0 1 := hL
  replace hU : U < 2 ^ R 0 1 := hU
  replace hdj : dj L U := hdj
  replace hsd : sd ≤ 65536 := hsd
  replace hVc : ∀ j, j < R 0 1 → V j ≤ cap := hVc
  replace hf9 : f ≤ 999 := hf9
  have hV : ∀ j, j < R 0 1 → V j < 2 ^ 20 := fun j hj => Nat.lt_of_le_of_lt (hVc j hj) (Nat.lt_trans hcap (by decide))
  have hf : f < 2 ^ 16 := Nat.lt_of_le_of_lt hf9 (by decide)
  have hq : qOK R cap (L, U, sd, V) := ⟨hL, hU, hdj, hsd, hVc⟩
  rw [a18, a20, d66, d67, r2, r3]
  obtain ⟨ans, t, ⟨w, co, de, sp, ha, be, al, si, e1⟩, wi, wa, de2, sp2, be2, e2⟩ := j_needs hR hL hf T T2 hv x1 (cf 14) (cf 15) (cf 16) (cf 17) (cf 18) (ci 25) (ci 26) (ci 27) (ci 0) (mi 0) (mi 1) (mi 2) (mf 5) (mf 6) (mf 7) (mf 8) (mi 13)
  have h4 : ¬ t = 4 := nt_needs _ _ _ _ _ _ _ _ _ _ _ _ _ _ _ _ _ _ _  _ e1
  exact ⟨_, _, e1, e2, rfl, R, l, ⟨hC.1, hC.2.1, rfl, wh_n h4 rfl, hC.2.2.2.2⟩, hR, D, D2, nowE_up (Nat.le_succ _) hN, memE_up (Nat.le_succ _) hM, mrkE_up (Nat.le_succ _) hK⟩
set_option maxHeartbeats 2000000 in
theorem pU_29 {ci : Nat → Int32} {cf : Nat → Nat → Int32} {mi : Nat → Int32} {mf : Nat → Nat → Int32} (hr : rlU ci cf mi mf) (x1 : Int32) : ∃ o q, f_X10_needs x1 (ci 18) (ci 20) (cf 14) (cf 15) (cf 16) (cf 17) (cf 18) (ci 25) (ci 26) (ci 27) (ci 66) (ci 67) (cf 49) (cf 50) (cf 51) (cf 53) (cf 54) (ci 0) = some o ∧ f_X12_needsN x1 (mi 0) (mi 1) (mi 2) = some q ∧ o.1 = q.1 ∧ rlU (up ci [(0, o.2.2.2.2.2.2.2.2.2), (25, o.2.2.2.2.2.2.1), (26, o.2.2.2.2.2.2.2.1), (27, o.2.2.2.2.2.2.2.2.1)]) (up cf [(14, o.2.1), (15, o.2.2.1), (16, o.2.2.2.1), (17, o.2.2.2.2.1), (18, o.2.2.2.2.2.1)]) (up mi [(0, q.2.1), (1, q.2.2.1), (2, q.2.2.2)]) mf := by
  obtain ⟨hC, u20, u21, u23, u24, u64, u65, u66, u67, u68, u69, u70⟩ := hr
  rw [u66, u67]
  obtain ⟨o, e1, h1, h2⟩ := n_needs x1 (ci 18) (ci 20) (cf 14) (cf 15) (cf 16) (cf 17) (cf 18) (ci 25) (ci 26) (ci 27) (cf 49) (cf 50) (cf 51) (cf 53) (cf 54) (ci 0)
  exact ⟨o, _, e1, q_needs _ _ _ _ , h1, ⟨hC.1, hC.2.1, h2.symm, wh_n (ne4_1 h2) rfl, hC.2.2.2.2⟩, u20, u21, u23, u24, u64, u65, u66, u67, u68, u69, u70⟩
set_option maxHeartbeats 2000000 in
theorem pT_30 {cap : Nat} (hcap : cap < 2 ^ 15) {ci : Nat → Int32} {cf : Nat → Nat → Int32} {mi : Nat → Int32} {mf : Nat → Nat → Int32} {ri : Nat → Int32} {rf : Nat → Nat → Int32} {kl kb kf ks : Nat → Int32} {kw : Nat → Nat → Int32} {mlM mbM mfM msM : Nat → Int32} {mwM : Nat → Nat → Int32} (hr : rlT cap ci cf mi mf ri rf kl kb kf ks kw mlM mbM mfM msM mwM) (x1 : Int32) : ∃ o q, f_X10_hauls x1 (ci 18) (ci 20) (cf 14) (cf 15) (cf 16) (cf 17) (cf 18) (ci 25) (ci 26) (ci 27) (ci 66) (ci 67) (ci 68) (cf 49) (cf 50) (cf 51) (cf 53) (cf 54) (cf 56) (ci 0) = some o ∧ f_X12_hauls x1 (mi 0) (mi 1) (mi 2) (ri 2) (ri 3) (ri 4) (rf 0) (rf 1) (rf 2) (rf 4) (rf 5) (rf 7) (mf 1) (mf 5) (mf 6) (mf 7) (mf 8) (mi 13) = some q ∧ o.1 = q.1 ∧ rlT (cap + 1) (up ci [(0, o.2.2.2.2.2.2.2.2.2), (25, o.2.2.2.2.2.2.1), (26, o.2.2.2.2.2.2.2.1), (27, o.2.2.2.2.2.2.2.2.1)]) (up cf [(14, o.2.1), (15, o.2.2.1), (16, o.2.2.2.1), (17, o.2.2.2.2.1), (18, o.2.2.2.2.2.1)]) (up mi [(0, q.2.1), (1, q.2.2.1), (2, q.2.2.2.1), (13, q.2.2.2.2.2.2.2.2)]) (up mf [(5, q.2.2.2.2.1), (6, q.2.2.2.2.2.1), (7, q.2.2.2.2.2.2.1), (8, q.2.2.2.2.2.2.2.1)]) ri rf kl kb kf ks kw mlM mbM mfM msM mwM := by
  obtain ⟨R, l, hC, hR, D, D2, hN, hM, hK⟩ := hr
  obtain ⟨d64, d65, d66, d67, d68, d69, d70, d71, dk, dw, db, hm, da, du, hb, hs, hbw, hbd⟩ := id D
  obtain ⟨r0, r1, r2, r3, r4, r5, r6, r7, ek, ew, eb, hm2, ea, eu, hb2, hs2, hbw2, hbd2⟩ := id D2
  have T : tR R (cf 49) (cf 50) (cf 51) (cf 53) (cf 54) := ⟨dk, dw, db, da, du⟩
  have T2 : tR R (rf 0) (rf 1) (rf 2) (rf 4) (rf 5) := ⟨ek, ew, eb, ea, eu⟩
  obtain ⟨⟨L, U, f, sd, V⟩, ⟨a18, a19, a20, a21, hwr⟩, hv, ⟨hL, hU, hdj, hsd, hVc⟩, hf9⟩ := id hN
  replace a18 : ci 18 = nI L := a18
  replace a19 : ci 19 = nI U := a19
  replace a20 : ci 20 = nI f := a20
  replace a21 : ci 21 = nI sd := a21
  replace hwr : rw_ (R 0 1) (cf 13) V := hwr
  replace hv : vR (R 0 1) (mf 1) L U f sd V := hv
  replace hL : L < 2 ^ R 0 1 := hL
  replace hU : U < 2 ^ R 0 1 := hU
  replace hdj : dj L U := hdj
  replace hsd : sd ≤ 65536 := hsd
  replace hVc : ∀ j, j < R 0 1 → V j ≤ cap := hVc
  replace hf9 : f ≤ 999 := hf9
  have hV : ∀ j, j < R 0 1 → V j < 2 ^ 20 := fun j hj => Nat.lt_of_le_of_lt (hVc j hj) (Nat.lt_trans hcap (by decide))
  have hf : f < 2 ^ 16 := Nat.lt_of_le_of_lt hf9 (by decide)
  have hq : qOK R cap (L, U, sd, V) := ⟨hL, hU, hdj, hsd, hVc⟩
  rw [a18, a20, d66, d67, d68, r2, r3, r4]
  obtain ⟨ans, t, ⟨w, co, de, sp, ha, be, al, si, e1⟩, wi, wa, de2, sp2, be2, e2⟩ := j_hauls hR hL hf T T2 hv hs hs2 x1 (cf 14) (cf 15) (cf 16) (cf 17) (cf 18) (ci 25) (ci 26) (ci 27) (ci 0) (mi 0) (mi 1) (mi 2) (mf 5) (mf 6) (mf 7) (mf 8) (mi 13)
  have h4 : ¬ t = 4 := nt_hauls _ _ _ _ _ _ _ _ _ _ _ _ _ _ _ _ _ _ _ _ _  _ e1
  exact ⟨_, _, e1, e2, rfl, R, l, ⟨hC.1, hC.2.1, rfl, wh_n h4 rfl, hC.2.2.2.2⟩, hR, D, D2, nowE_up (Nat.le_succ _) hN, memE_up (Nat.le_succ _) hM, mrkE_up (Nat.le_succ _) hK⟩
set_option maxHeartbeats 2000000 in
theorem pU_30 {ci : Nat → Int32} {cf : Nat → Nat → Int32} {mi : Nat → Int32} {mf : Nat → Nat → Int32} (hr : rlU ci cf mi mf) (x1 : Int32) : ∃ o q, f_X10_hauls x1 (ci 18) (ci 20) (cf 14) (cf 15) (cf 16) (cf 17) (cf 18) (ci 25) (ci 26) (ci 27) (ci 66) (ci 67) (ci 68) (cf 49) (cf 50) (cf 51) (cf 53) (cf 54) (cf 56) (ci 0) = some o ∧ f_X12_haulsN x1 (mi 0) (mi 1) (mi 2) = some q ∧ o.1 = q.1 ∧ rlU (up ci [(0, o.2.2.2.2.2.2.2.2.2), (25, o.2.2.2.2.2.2.1), (26, o.2.2.2.2.2.2.2.1), (27, o.2.2.2.2.2.2.2.2.1)]) (up cf [(14, o.2.1), (15, o.2.2.1), (16, o.2.2.2.1), (17, o.2.2.2.2.1), (18, o.2.2.2.2.2.1)]) (up mi [(0, q.2.1), (1, q.2.2.1), (2, q.2.2.2)]) mf := by
  obtain ⟨hC, u20, u21, u23, u24, u64, u65, u66, u67, u68, u69, u70⟩ := hr
  rw [u66, u67]
  obtain ⟨o, e1, h1, h2⟩ := n_hauls x1 (ci 18) (ci 20) (cf 14) (cf 15) (cf 16) (cf 17) (cf 18) (ci 25) (ci 26) (ci 27) (ci 68) (cf 49) (cf 50) (cf 51) (cf 53) (cf 54) (cf 56) (ci 0)
  exact ⟨o, _, e1, q_hauls _ _ _ _ , h1, ⟨hC.1, hC.2.1, h2.symm, wh_n (ne4_1 h2) rfl, hC.2.2.2.2⟩, u20, u21, u23, u24, u64, u65, u66, u67, u68, u69, u70⟩
set_option maxHeartbeats 2000000 in
theorem pT_31 {cap : Nat} (hcap : cap < 2 ^ 15) {ci : Nat → Int32} {cf : Nat → Nat → Int32} {mi : Nat → Int32} {mf : Nat → Nat → Int32} {ri : Nat → Int32} {rf : Nat → Nat → Int32} {kl kb kf ks : Nat → Int32} {kw : Nat → Nat → Int32} {mlM mbM mfM msM : Nat → Int32} {mwM : Nat → Nat → Int32} (hr : rlT cap ci cf mi mf ri rf kl kb kf ks kw mlM mbM mfM msM mwM) : ∃ o q, f_X10_fits (ci 18) (ci 20) (cf 29) (cf 30) (cf 31) (cf 32) (cf 33) (ci 45) (ci 46) (ci 47) (cf 34) (ci 40) (ci 41) (ci 42) (ci 66) (ci 67) (cf 49) (cf 50) (cf 51) (cf 52) (cf 53) (cf 54) (ci 0) = some o ∧ f_X12_fits (mi 0) (mi 1) (mi 2) (ri 2) (ri 3) (rf 0) (rf 1) (rf 2) (rf 3) (rf 4) (rf 5) (mf 1) (mf 5) (mf 6) (mf 7) (mf 8) (mi 13) (mi 19) (mi 20) (mi 21) (mf 9) = some q ∧ o.1 = q.1 ∧ rlT (cap + 1) (up ci [(0, o.2.2.2.2.2.2.2.2.2.2.2.2.2), (40, o.2.2.2.2.2.2.2.2.2.2.1), (41, o.2.2.2.2.2.2.2.2.2.2.2.1), (42, o.2.2.2.2.2.2.2.2.2.2.2.2.1), (45, o.2.2.2.2.2.2.1), (46, o.2.2.2.2.2.2.2.1), (47, o.2.2.2.2.2.2.2.2.1)]) (up cf [(29, o.2.1), (30, o.2.2.1), (31, o.2.2.2.1), (32, o.2.2.2.2.1), (33, o.2.2.2.2.2.1), (34, o.2.2.2.2.2.2.2.2.2.1)]) (up mi [(0, q.2.1), (1, q.2.2.1), (2, q.2.2.2.1), (13, q.2.2.2.2.2.2.2.2.1), (19, q.2.2.2.2.2.2.2.2.2.1), (20, q.2.2.2.2.2.2.2.2.2.2.1), (21, q.2.2.2.2.2.2.2.2.2.2.2.1)]) (up mf [(5, q.2.2.2.2.1), (6, q.2.2.2.2.2.1), (7, q.2.2.2.2.2.2.1), (8, q.2.2.2.2.2.2.2.1), (9, q.2.2.2.2.2.2.2.2.2.2.2.2)]) ri rf kl kb kf ks kw mlM mbM mfM msM mwM := by
  obtain ⟨R, l, hC, hR, D, D2, hN, hM, hK⟩ := hr
  obtain ⟨d64, d65, d66, d67, d68, d69, d70, d71, dk, dw, db, hm, da, du, hb, hs, hbw, hbd⟩ := id D
  obtain ⟨r0, r1, r2, r3, r4, r5, r6, r7, ek, ew, eb, hm2, ea, eu, hb2, hs2, hbw2, hbd2⟩ := id D2
  have T : tR R (cf 49) (cf 50) (cf 51) (cf 53) (cf 54) := ⟨dk, dw, db, da, du⟩
  have T2 : tR R (rf 0) (rf 1) (rf 2) (rf 4) (rf 5) := ⟨ek, ew, eb, ea, eu⟩
  obtain ⟨⟨L, U, f, sd, V⟩, ⟨a18, a19, a20, a21, hwr⟩, hv, ⟨hL, hU, hdj, hsd, hVc⟩, hf9⟩ := id hN
  replace a18 : ci 18 = nI L := a18
  replace a19 : ci 19 = nI U := a19
  replace a20 : ci 20 = nI f := a20
  replace a21 : ci 21 = nI sd := a21
  replace hwr : rw_ (R 0 1) (cf 13) V := hwr
  replace hv : vR (R 0 1) (mf 1) L U f sd V := hv
  replace hL : L < 2 ^ R 0 1 := hL
  replace hU : U < 2 ^ R 0 1 := hU
  replace hdj : dj L U := hdj
  replace hsd : sd ≤ 65536 := hsd
  replace hVc : ∀ j, j < R 0 1 → V j ≤ cap := hVc
  replace hf9 : f ≤ 999 := hf9
  have hV : ∀ j, j < R 0 1 → V j < 2 ^ 20 := fun j hj => Nat.lt_of_le_of_lt (hVc j hj) (Nat.lt_trans hcap (by decide))
  have hf : f < 2 ^ 16 := Nat.lt_of_le_of_lt hf9 (by decide)
  have hq : qOK R cap (L, U, sd, V) := ⟨hL, hU, hdj, hsd, hVc⟩
  rw [a18, a20, d66, d67, r2, r3]
  obtain ⟨o, q, e1, e2, h1, h2, h3, h5, h6⟩ := j_fits hR hL hf T T2 hv hm hm2 (cf 29) (cf 30) (cf 31) (cf 32) (cf 33) (ci 45) (ci 46) (ci 47) (cf 34) (ci 40) (ci 41) (ci 42) (ci 0) (mi 0) (mi 1) (mi 2) (mf 5) (mf 6) (mf 7) (mf 8) (mi 13) (mi 19) (mi 20) (mi 21) (mf 9)
  exact ⟨o, q, e1, e2, h1.symm, R, l, ⟨hC.1, hC.2.1, h3, wh_n (ne4_z h6) h5, hC.2.2.2.2⟩, hR, D, D2, nowE_up (Nat.le_succ _) hN, memE_up (Nat.le_succ _) hM, mrkE_up (Nat.le_succ _) hK⟩
set_option maxHeartbeats 2000000 in
theorem pU_31 {ci : Nat → Int32} {cf : Nat → Nat → Int32} {mi : Nat → Int32} {mf : Nat → Nat → Int32} (hr : rlU ci cf mi mf) : ∃ o q, f_X10_fits (ci 18) (ci 20) (cf 29) (cf 30) (cf 31) (cf 32) (cf 33) (ci 45) (ci 46) (ci 47) (cf 34) (ci 40) (ci 41) (ci 42) (ci 66) (ci 67) (cf 49) (cf 50) (cf 51) (cf 52) (cf 53) (cf 54) (ci 0) = some o ∧ f_X12_fitsN (mi 0) (mi 1) (mi 2) = some q ∧ o.1 = q.1 ∧ rlU (up ci [(0, o.2.2.2.2.2.2.2.2.2.2.2.2.2), (40, o.2.2.2.2.2.2.2.2.2.2.1), (41, o.2.2.2.2.2.2.2.2.2.2.2.1), (42, o.2.2.2.2.2.2.2.2.2.2.2.2.1), (45, o.2.2.2.2.2.2.1), (46, o.2.2.2.2.2.2.2.1), (47, o.2.2.2.2.2.2.2.2.1)]) (up cf [(29, o.2.1), (30, o.2.2.1), (31, o.2.2.2.1), (32, o.2.2.2.2.1), (33, o.2.2.2.2.2.1), (34, o.2.2.2.2.2.2.2.2.2.1)]) (up mi [(0, q.2.1), (1, q.2.2.1), (2, q.2.2.2)]) mf := by
  obtain ⟨hC, u20, u21, u23, u24, u64, u65, u66, u67, u68, u69, u70⟩ := hr
  rw [u66, u67]
  obtain ⟨o, e1, h1, h2⟩ := n_fits (ci 18) (ci 20) (cf 29) (cf 30) (cf 31) (cf 32) (cf 33) (ci 45) (ci 46) (ci 47) (cf 34) (ci 40) (ci 41) (ci 42) (cf 49) (cf 50) (cf 51) (cf 52) (cf 53) (cf 54) (ci 0)
  exact ⟨o, _, e1, q_fits _ _ _ , h1, ⟨hC.1, hC.2.1, h2.symm, wh_n (ne4_1 h2) rfl, hC.2.2.2.2⟩, u20, u21, u23, u24, u64, u65, u66, u67, u68, u69, u70⟩
set_option maxHeartbeats 2000000 in
theorem pT_32 {cap : Nat} (hcap : cap < 2 ^ 15) {ci : Nat → Int32} {cf : Nat → Nat → Int32} {mi : Nat → Int32} {mf : Nat → Nat → Int32} {ri : Nat → Int32} {rf : Nat → Nat → Int32} {kl kb kf ks : Nat → Int32} {kw : Nat → Nat → Int32} {mlM mbM mfM msM : Nat → Int32} {mwM : Nat → Nat → Int32} (hr : rlT cap ci cf mi mf ri rf kl kb kf ks kw mlM mbM mfM msM mwM) : ∃ o q, f_X10_could (ci 18) (ci 20) (cf 29) (cf 30) (cf 31) (cf 32) (cf 33) (ci 45) (ci 46) (ci 47) (cf 34) (ci 40) (ci 41) (ci 42) (ci 66) (ci 67) (cf 49) (cf 50) (cf 51) (cf 52) (cf 53) (cf 54) (ci 0) = some o ∧ f_X12_could (mi 0) (mi 1) (mi 2) (ri 2) (ri 3) (rf 0) (rf 1) (rf 2) (rf 3) (rf 4) (rf 5) (mf 1) (mf 5) (mf 6) (mf 7) (mf 8) (mi 13) (mi 19) (mi 20) (mi 21) (mf 9) = some q ∧ o.1 = q.1 ∧ rlT (cap + 1) (up ci [(0, o.2.2.2.2.2.2.2.2.2.2.2.2.2), (40, o.2.2.2.2.2.2.2.2.2.2.1), (41, o.2.2.2.2.2.2.2.2.2.2.2.1), (42, o.2.2.2.2.2.2.2.2.2.2.2.2.1), (45, o.2.2.2.2.2.2.1), (46, o.2.2.2.2.2.2.2.1), (47, o.2.2.2.2.2.2.2.2.1)]) (up cf [(29, o.2.1), (30, o.2.2.1), (31, o.2.2.2.1), (32, o.2.2.2.2.1), (33, o.2.2.2.2.2.1), (34, o.2.2.2.2.2.2.2.2.2.1)]) (up mi [(0, q.2.1), (1, q.2.2.1), (2, q.2.2.2.1), (13, q.2.2.2.2.2.2.2.2.1), (19, q.2.2.2.2.2.2.2.2.2.1), (20, q.2.2.2.2.2.2.2.2.2.2.1), (21, q.2.2.2.2.2.2.2.2.2.2.2.1)]) (up mf [(5, q.2.2.2.2.1), (6, q.2.2.2.2.2.1), (7, q.2.2.2.2.2.2.1), (8, q.2.2.2.2.2.2.2.1), (9, q.2.2.2.2.2.2.2.2.2.2.2.2)]) ri rf kl kb kf ks kw mlM mbM mfM msM mwM := by
  obtain ⟨R, l, hC, hR, D, D2, hN, hM, hK⟩ := hr
  obtain ⟨d64, d65, d66, d67, d68, d69, d70, d71, dk, dw, db, hm, da, du, hb, hs, hbw, hbd⟩ := id D
  obtain ⟨r0, r1, r2, r3, r4, r5, r6, r7, ek, ew, eb, hm2, ea, eu, hb2, hs2, hbw2, hbd2⟩ := id D2
  have T : tR R (cf 49) (cf 50) (cf 51) (cf 53) (cf 54) := ⟨dk, dw, db, da, du⟩
  have T2 : tR R (rf 0) (rf 1) (rf 2) (rf 4) (rf 5) := ⟨ek, ew, eb, ea, eu⟩
  obtain ⟨⟨L, U, f, sd, V⟩, ⟨a18, a19, a20, a21, hwr⟩, hv, ⟨hL, hU, hdj, hsd, hVc⟩, hf9⟩ := id hN
  replace a18 : ci 18 = nI L := a18
  replace a19 : ci 19 = nI U := a19
  replace a20 : ci 20 = nI f := a20
  replace a21 : ci 21 = nI sd := a21
  replace hwr : rw_ (R 0 1) (cf 13) V := hwr
  replace hv : vR (R 0 1) (mf 1) L U f sd V := hv
  replace hL : L < 2 ^ R 0 1 := hL
  replace hU : U < 2 ^ R 0 1 := hU
  replace hdj : dj L U := hdj
  replace hsd : sd ≤ 65536 := hsd
  replace hVc : ∀ j, j < R 0 1 → V j ≤ cap := hVc
  replace hf9 : f ≤ 999 := hf9
  have hV : ∀ j, j < R 0 1 → V j < 2 ^ 20 := fun j hj => Nat.lt_of_le_of_lt (hVc j hj) (Nat.lt_trans hcap (by decide))
  have hf : f < 2 ^ 16 := Nat.lt_of_le_of_lt hf9 (by decide)
  have hq : qOK R cap (L, U, sd, V) := ⟨hL, hU, hdj, hsd, hVc⟩
  rw [a18, a20, d66, d67, r2, r3]
  obtain ⟨o, q, e1, e2, h1, h2, h3, h5, h6⟩ := j_could hR hL hf T T2 hv hm hm2 (cf 29) (cf 30) (cf 31) (cf 32) (cf 33) (ci 45) (ci 46) (ci 47) (cf 34) (ci 40) (ci 41) (ci 42) (ci 0) (mi 0) (mi 1) (mi 2) (mf 5) (mf 6) (mf 7) (mf 8) (mi 13) (mi 19) (mi 20) (mi 21) (mf 9)
  exact ⟨o, q, e1, e2, h1.symm, R, l, ⟨hC.1, hC.2.1, h3, wh_n (ne4_z h6) h5, hC.2.2.2.2⟩, hR, D, D2, nowE_up (Nat.le_succ _) hN, memE_up (Nat.le_succ _) hM, mrkE_up (Nat.le_succ _) hK⟩
set_option maxHeartbeats 2000000 in
theorem pU_32 {ci : Nat → Int32} {cf : Nat → Nat → Int32} {mi : Nat → Int32} {mf : Nat → Nat → Int32} (hr : rlU ci cf mi mf) : ∃ o q, f_X10_could (ci 18) (ci 20) (cf 29) (cf 30) (cf 31) (cf 32) (cf 33) (ci 45) (ci 46) (ci 47) (cf 34) (ci 40) (ci 41) (ci 42) (ci 66) (ci 67) (cf 49) (cf 50) (cf 51) (cf 52) (cf 53) (cf 54) (ci 0) = some o ∧ f_X12_couldN (mi 0) (mi 1) (mi 2) = some q ∧ o.1 = q.1 ∧ rlU (up ci [(0, o.2.2.2.2.2.2.2.2.2.2.2.2.2), (40, o.2.2.2.2.2.2.2.2.2.2.1), (41, o.2.2.2.2.2.2.2.2.2.2.2.1), (42, o.2.2.2.2.2.2.2.2.2.2.2.2.1), (45, o.2.2.2.2.2.2.1), (46, o.2.2.2.2.2.2.2.1), (47, o.2.2.2.2.2.2.2.2.1)]) (up cf [(29, o.2.1), (30, o.2.2.1), (31, o.2.2.2.1), (32, o.2.2.2.2.1), (33, o.2.2.2.2.2.1), (34, o.2.2.2.2.2.2.2.2.2.1)]) (up mi [(0, q.2.1), (1, q.2.2.1), (2, q.2.2.2)]) mf := by
  obtain ⟨hC, u20, u21, u23, u24, u64, u65, u66, u67, u68, u69, u70⟩ := hr
  rw [u66, u67]
  obtain ⟨o, e1, h1, h2⟩ := n_could (ci 18) (ci 20) (cf 29) (cf 30) (cf 31) (cf 32) (cf 33) (ci 45) (ci 46) (ci 47) (cf 34) (ci 40) (ci 41) (ci 42) (cf 49) (cf 50) (cf 51) (cf 52) (cf 53) (cf 54) (ci 0)
  exact ⟨o, _, e1, q_could _ _ _ , h1, ⟨hC.1, hC.2.1, h2.symm, wh_n (ne4_1 h2) rfl, hC.2.2.2.2⟩, u20, u21, u23, u24, u64, u65, u66, u67, u68, u69, u70⟩
set_option maxHeartbeats 2000000 in
theorem pT_33 {cap : Nat} (hcap : cap < 2 ^ 15) {ci : Nat → Int32} {cf : Nat → Nat → Int32} {mi : Nat → Int32} {mf : Nat → Nat → Int32} {ri : Nat → Int32} {rf : Nat → Nat → Int32} {kl kb kf ks : Nat → Int32} {kw : Nat → Nat → Int32} {mlM mbM mfM msM : Nat → Int32} {mwM : Nat → Nat → Int32} (hr : rlT cap ci cf mi mf ri rf kl kb kf ks kw mlM mbM mfM msM mwM) : ∃ o q, f_X10_surely (ci 18) (ci 20) (cf 29) (cf 30) (cf 31) (cf 32) (cf 33) (ci 45) (ci 46) (ci 47) (cf 34) (ci 40) (ci 41) (ci 42) (ci 66) (ci 67) (cf 49) (cf 50) (cf 51) (cf 52) (cf 53) (cf 54) (ci 0) = some o ∧ f_X12_surely (mi 0) (mi 1) (mi 2) (ri 2) (ri 3) (rf 0) (rf 1) (rf 2) (rf 3) (rf 4) (rf 5) (mf 1) (mf 5) (mf 6) (mf 7) (mf 8) (mi 13) (mi 19) (mi 20) (mi 21) (mf 9) = some q ∧ o.1 = q.1 ∧ rlT (cap + 1) (up ci [(0, o.2.2.2.2.2.2.2.2.2.2.2.2.2), (40, o.2.2.2.2.2.2.2.2.2.2.1), (41, o.2.2.2.2.2.2.2.2.2.2.2.1), (42, o.2.2.2.2.2.2.2.2.2.2.2.2.1), (45, o.2.2.2.2.2.2.1), (46, o.2.2.2.2.2.2.2.1), (47, o.2.2.2.2.2.2.2.2.1)]) (up cf [(29, o.2.1), (30, o.2.2.1), (31, o.2.2.2.1), (32, o.2.2.2.2.1), (33, o.2.2.2.2.2.1), (34, o.2.2.2.2.2.2.2.2.2.1)]) (up mi [(0, q.2.1), (1, q.2.2.1), (2, q.2.2.2.1), (13, q.2.2.2.2.2.2.2.2.1), (19, q.2.2.2.2.2.2.2.2.2.1), (20, q.2.2.2.2.2.2.2.2.2.2.1), (21, q.2.2.2.2.2.2.2.2.2.2.2.1)]) (up mf [(5, q.2.2.2.2.1), (6, q.2.2.2.2.2.1), (7, q.2.2.2.2.2.2.1), (8, q.2.2.2.2.2.2.2.1), (9, q.2.2.2.2.2.2.2.2.2.2.2.2)]) ri rf kl kb kf ks kw mlM mbM mfM msM mwM := by
  obtain ⟨R, l, hC, hR, D, D2, hN, hM, hK⟩ := hr
  obtain ⟨d64, d65, d66, d67, d68, d69, d70, d71, dk, dw, db, hm, da, du, hb, hs, hbw, hbd⟩ := id D
  obtain ⟨r0, r1, r2, r3, r4, r5, r6, r7, ek, ew, eb, hm2, ea, eu, hb2, hs2, hbw2, hbd2⟩ := id D2
  have T : tR R (cf 49) (cf 50) (cf 51) (cf 53) (cf 54) := ⟨dk, dw, db, da, du⟩
  have T2 : tR R (rf 0) (rf 1) (rf 2) (rf 4) (rf 5) := ⟨ek, ew, eb, ea, eu⟩
  obtain ⟨⟨L, U, f, sd, V⟩, ⟨a18, a19, a20, a21, hwr⟩, hv, ⟨hL, hU, hdj, hsd, hVc⟩, hf9⟩ := id hN
  replace a18 : ci 18 = nI L := a18
  replace a19 : ci 19 = nI U := a19
  replace a20 : ci 20 = nI f := a20
  replace a21 : ci 21 = nI sd := a21
  replace hwr : rw_ (R 0 1) (cf 13) V := hwr
  replace hv : vR (R 0 1) (mf 1) L U f sd V := hv
  replace hL : L < 2 ^ R 0 1 := hL
  replace hU : U < 2 ^ R 0 1 := hU
  replace hdj : dj L U := hdj
  replace hsd : sd ≤ 65536 := hsd
  replace hVc : ∀ j, j < R 0 1 → V j ≤ cap := hVc
  replace hf9 : f ≤ 999 := hf9
  have hV : ∀ j, j < R 0 1 → V j < 2 ^ 20 := fun j hj => Nat.lt_of_le_of_lt (hVc j hj) (Nat.lt_trans hcap (by decide))
  have hf : f < 2 ^ 16 := Nat.lt_of_le_of_lt hf9 (by decide)
  have hq : qOK R cap (L, U, sd, V) := ⟨hL, hU, hdj, hsd, hVc⟩
  rw [a18, a20, d66, d67, r2, r3]
  obtain ⟨o, q, e1, e2, h1, h2, h3, h5, h6⟩ := j_surely hR hL hf T T2 hv hm hm2 (cf 29) (cf 30) (cf 31) (cf 32) (cf 33) (ci 45) (ci 46) (ci 47) (cf 34) (ci 40) (ci 41) (ci 42) (ci 0) (mi 0) (mi 1) (mi 2) (mf 5) (mf 6) (mf 7) (mf 8) (mi 13) (mi 19) (mi 20) (mi 21) (mf 9)
  exact ⟨o, q, e1, e2, h1.symm, R, l, ⟨hC.1, hC.2.1, h3, wh_n (ne4_z h6) h5, hC.2.2.2.2⟩, hR, D, D2, nowE_up (Nat.le_succ _) hN, memE_up (Nat.le_succ _) hM, mrkE_up (Nat.le_succ _) hK⟩
set_option maxHeartbeats 2000000 in
theorem pU_33 {ci : Nat → Int32} {cf : Nat → Nat → Int32} {mi : Nat → Int32} {mf : Nat → Nat → Int32} (hr : rlU ci cf mi mf) : ∃ o q, f_X10_surely (ci 18) (ci 20) (cf 29) (cf 30) (cf 31) (cf 32) (cf 33) (ci 45) (ci 46) (ci 47) (cf 34) (ci 40) (ci 41) (ci 42) (ci 66) (ci 67) (cf 49) (cf 50) (cf 51) (cf 52) (cf 53) (cf 54) (ci 0) = some o ∧ f_X12_surelyN (mi 0) (mi 1) (mi 2) = some q ∧ o.1 = q.1 ∧ rlU (up ci [(0, o.2.2.2.2.2.2.2.2.2.2.2.2.2), (40, o.2.2.2.2.2.2.2.2.2.2.1), (41, o.2.2.2.2.2.2.2.2.2.2.2.1), (42, o.2.2.2.2.2.2.2.2.2.2.2.2.1), (45, o.2.2.2.2.2.2.1), (46, o.2.2.2.2.2.2.2.1), (47, o.2.2.2.2.2.2.2.2.1)]) (up cf [(29, o.2.1), (30, o.2.2.1), (31, o.2.2.2.1), (32, o.2.2.2.2.1), (33, o.2.2.2.2.2.1), (34, o.2.2.2.2.2.2.2.2.2.1)]) (up mi [(0, q.2.1), (1, q.2.2.1), (2, q.2.2.2)]) mf := by
  obtain ⟨hC, u20, u21, u23, u24, u64, u65, u66, u67, u68, u69, u70⟩ := hr
  rw [u66, u67]
  obtain ⟨o, e1, h1, h2⟩ := n_surely (ci 18) (ci 20) (cf 29) (cf 30) (cf 31) (cf 32) (cf 33) (ci 45) (ci 46) (ci 47) (cf 34) (ci 40) (ci 41) (ci 42) (cf 49) (cf 50) (cf 51) (cf 52) (cf 53) (cf 54) (ci 0)
  exact ⟨o, _, e1, q_surely _ _ _ , h1, ⟨hC.1, hC.2.1, h2.symm, wh_n (ne4_1 h2) rfl, hC.2.2.2.2⟩, u20, u21, u23, u24, u64, u65, u66, u67, u68, u69, u70⟩
set_option maxHeartbeats 2000000 in
theorem pT_34 {cap : Nat} (hcap : cap < 2 ^ 15) {ci : Nat → Int32} {cf : Nat → Nat → Int32} {mi : Nat → Int32} {mf : Nat → Nat → Int32} {ri : Nat → Int32} {rf : Nat → Nat → Int32} {kl kb kf ks : Nat → Int32} {kw : Nat → Nat → Int32} {mlM mbM mfM msM : Nat → Int32} {mwM : Nat → Nat → Int32} (hr : rlT cap ci cf mi mf ri rf kl kb kf ks kw mlM mbM mfM msM mwM) : ∃ o q, f_X10_ask (ci 18) (ci 20) (cf 29) (cf 30) (cf 31) (cf 32) (cf 33) (ci 45) (ci 46) (ci 47) (cf 34) (cf 35) (ci 40) (ci 41) (ci 42) (ci 43) (ci 44) (ci 66) (ci 67) (cf 49) (cf 50) (cf 51) (cf 52) (cf 53) (cf 54) (ci 0) = some o ∧ f_X12_ask (mi 0) (mi 1) (mi 2) (ri 2) (ri 3) (rf 0) (rf 1) (rf 2) (rf 3) (rf 4) (rf 5) (mf 1) (mf 5) (mf 6) (mf 7) (mf 8) (mi 13) (mi 19) (mi 20) (mi 21) (mf 9) (mi 22) = some q ∧ o.1 = q.1 ∧ rlT (cap + 1) (up ci [(0, o.2.2.2.2.2.2.2.2.2.2.2.2.2.2.2.2), (40, o.2.2.2.2.2.2.2.2.2.2.2.1), (41, o.2.2.2.2.2.2.2.2.2.2.2.2.1), (42, o.2.2.2.2.2.2.2.2.2.2.2.2.2.1), (43, o.2.2.2.2.2.2.2.2.2.2.2.2.2.2.1), (44, o.2.2.2.2.2.2.2.2.2.2.2.2.2.2.2.1), (45, o.2.2.2.2.2.2.1), (46, o.2.2.2.2.2.2.2.1), (47, o.2.2.2.2.2.2.2.2.1)]) (up cf [(29, o.2.1), (30, o.2.2.1), (31, o.2.2.2.1), (32, o.2.2.2.2.1), (33, o.2.2.2.2.2.1), (34, o.2.2.2.2.2.2.2.2.2.1), (35, o.2.2.2.2.2.2.2.2.2.2.1)]) (up mi [(0, q.2.1), (1, q.2.2.1), (2, q.2.2.2.1), (13, q.2.2.2.2.2.2.2.2.1), (19, q.2.2.2.2.2.2.2.2.2.1), (20, q.2.2.2.2.2.2.2.2.2.2.1), (21, q.2.2.2.2.2.2.2.2.2.2.2.1), (22, q.2.2.2.2.2.2.2.2.2.2.2.2.2)]) (up mf [(5, q.2.2.2.2.1), (6, q.2.2.2.2.2.1), (7, q.2.2.2.2.2.2.1), (8, q.2.2.2.2.2.2.2.1), (9, q.2.2.2.2.2.2.2.2.2.2.2.2.1)]) ri rf kl kb kf ks kw mlM mbM mfM msM mwM := by
  obtain ⟨R, l, hC, hR, D, D2, hN, hM, hK⟩ := hr
  obtain ⟨d64, d65, d66, d67, d68, d69, d70, d71, dk, dw, db, hm, da, du, hb, hs, hbw, hbd⟩ := id D
  obtain ⟨r0, r1, r2, r3, r4, r5, r6, r7, ek, ew, eb, hm2, ea, eu, hb2, hs2, hbw2, hbd2⟩ := id D2
  have T : tR R (cf 49) (cf 50) (cf 51) (cf 53) (cf 54) := ⟨dk, dw, db, da, du⟩
  have T2 : tR R (rf 0) (rf 1) (rf 2) (rf 4) (rf 5) := ⟨ek, ew, eb, ea, eu⟩
  obtain ⟨⟨L, U, f, sd, V⟩, ⟨a18, a19, a20, a21, hwr⟩, hv, ⟨hL, hU, hdj, hsd, hVc⟩, hf9⟩ := id hN
  replace a18 : ci 18 = nI L := a18
  replace a19 : ci 19 = nI U := a19
  replace a20 : ci 20 = nI f := a20
  replace a21 : ci 21 = nI sd := a21
  replace hwr : rw_ (R 0 1) (cf 13) V := hwr
  replace hv : vR (R 0 1) (mf 1) L U f sd V := hv
  replace hL : L < 2 ^ R 0 1 := hL
  replace hU : U < 2 ^ R 0 1 := hU
  replace hdj : dj L U := hdj
  replace hsd : sd ≤ 65536 := hsd
  replace hVc : ∀ j, j < R 0 1 → V j ≤ cap := hVc
  replace hf9 : f ≤ 999 := hf9
  have hV : ∀ j, j < R 0 1 → V j < 2 ^ 20 := fun j hj => Nat.lt_of_le_of_lt (hVc j hj) (Nat.lt_trans hcap (by decide))
  have hf : f < 2 ^ 16 := Nat.lt_of_le_of_lt hf9 (by decide)
  have hq : qOK R cap (L, U, sd, V) := ⟨hL, hU, hdj, hsd, hVc⟩
  rw [a18, a20, d66, d67, r2, r3]
  obtain ⟨o, q, e1, e2, h1, h2, h3, h5, h6, h7⟩ := j_ask hR hL hf9 T T2 hv hm hm2 (cf 29) (cf 30) (cf 31) (cf 32) (cf 33) (ci 45) (ci 46) (ci 47) (cf 34) (cf 35) hC.2.2.2.2 (ci 40) (ci 41) (ci 42) (ci 43) (ci 44) (ci 0) (mi 0) (mi 1) (mi 2) (mf 5) (mf 6) (mf 7) (mf 8) (mi 13) (mi 19) (mi 20) (mi 21) (mf 9) (mi 22)
  exact ⟨o, q, e1, e2, h1.symm, R, l, ⟨hC.1, hC.2.1, h3, wh_n (ne4_z h6) h5, h7⟩, hR, D, D2, nowE_up (Nat.le_succ _) hN, memE_up (Nat.le_succ _) hM, mrkE_up (Nat.le_succ _) hK⟩
set_option maxHeartbeats 2000000 in
theorem pU_34 {ci : Nat → Int32} {cf : Nat → Nat → Int32} {mi : Nat → Int32} {mf : Nat → Nat → Int32} (hr : rlU ci cf mi mf) : ∃ o q, f_X10_ask (ci 18) (ci 20) (cf 29) (cf 30) (cf 31) (cf 32) (cf 33) (ci 45) (ci 46) (ci 47) (cf 34) (cf 35) (ci 40) (ci 41) (ci 42) (ci 43) (ci 44) (ci 66) (ci 67) (cf 49) (cf 50) (cf 51) (cf 52) (cf 53) (cf 54) (ci 0) = some o ∧ f_X12_askN (mi 0) (mi 1) (mi 2) = some q ∧ o.1 = q.1 ∧ rlU (up ci [(0, o.2.2.2.2.2.2.2.2.2.2.2.2.2.2.2.2), (40, o.2.2.2.2.2.2.2.2.2.2.2.1), (41, o.2.2.2.2.2.2.2.2.2.2.2.2.1), (42, o.2.2.2.2.2.2.2.2.2.2.2.2.2.1), (43, o.2.2.2.2.2.2.2.2.2.2.2.2.2.2.1), (44, o.2.2.2.2.2.2.2.2.2.2.2.2.2.2.2.1), (45, o.2.2.2.2.2.2.1), (46, o.2.2.2.2.2.2.2.1), (47, o.2.2.2.2.2.2.2.2.1)]) (up cf [(29, o.2.1), (30, o.2.2.1), (31, o.2.2.2.1), (32, o.2.2.2.2.1), (33, o.2.2.2.2.2.1), (34, o.2.2.2.2.2.2.2.2.2.1), (35, o.2.2.2.2.2.2.2.2.2.2.1)]) (up mi [(0, q.2.1), (1, q.2.2.1), (2, q.2.2.2)]) mf := by
  obtain ⟨hC, u20, u21, u23, u24, u64, u65, u66, u67, u68, u69, u70⟩ := hr
  rw [u66, u67]
  exact ⟨_, _, n_ask2 (ci 18) (ci 20) (cf 29) (cf 30) (cf 31) (cf 32) (cf 33) (ci 45) (ci 46) (ci 47) (cf 34) (cf 35) (ci 40) (ci 41) (ci 42) (ci 43) (ci 44) (cf 49) (cf 50) (cf 51) (cf 52) (cf 53) (cf 54) (ci 0), q_ask _ _ _ , rfl, ⟨hC.1, hC.2.1, rfl, wh_n (show ¬ (1 : Int32) = 4 by decide) rfl, hC.2.2.2.2⟩, u20, u21, u23, u24, u64, u65, u66, u67, u68, u69, u70⟩
set_option maxHeartbeats 2000000 in
theorem pT_35 {cap : Nat} (hcap : cap < 2 ^ 15) {ci : Nat → Int32} {cf : Nat → Nat → Int32} {mi : Nat → Int32} {mf : Nat → Nat → Int32} {ri : Nat → Int32} {rf : Nat → Nat → Int32} {kl kb kf ks : Nat → Int32} {kw : Nat → Nat → Int32} {mlM mbM mfM msM : Nat → Int32} {mwM : Nat → Nat → Int32} (hr : rlT cap ci cf mi mf ri rf kl kb kf ks kw mlM mbM mfM msM mwM) : ∃ o q, f_X10_askLeaves (ci 18) (ci 20) (cf 29) (cf 30) (cf 31) (cf 32) (cf 33) (ci 45) (ci 46) (ci 47) (cf 34) (cf 35) (ci 40) (ci 41) (ci 42) (ci 43) (ci 44) (ci 66) (ci 67) (cf 49) (cf 50) (cf 51) (cf 52) (cf 53) (cf 54) (ci 0) = some o ∧ f_X12_askLeaves (mi 0) (mi 1) (mi 2) (ri 2) (ri 3) (rf 0) (rf 1) (rf 2) (rf 3) (rf 4) (rf 5) (mf 1) (mf 5) (mf 6) (mf 7) (mf 8) (mi 13) (mi 19) (mi 20) (mi 21) (mf 9) (mi 22) = some q ∧ o.1 = q.1 ∧ rlT (cap + 1) (up ci [(0, o.2.2.2.2.2.2.2.2.2.2.2.2.2.2.2.2), (40, o.2.2.2.2.2.2.2.2.2.2.2.1), (41, o.2.2.2.2.2.2.2.2.2.2.2.2.1), (42, o.2.2.2.2.2.2.2.2.2.2.2.2.2.1), (43, o.2.2.2.2.2.2.2.2.2.2.2.2.2.2.1), (44, o.2.2.2.2.2.2.2.2.2.2.2.2.2.2.2.1), (45, o.2.2.2.2.2.2.1), (46, o.2.2.2.2.2.2.2.1), (47, o.2.2.2.2.2.2.2.2.1)]) (up cf [(29, o.2.1), (30, o.2.2.1), (31, o.2.2.2.1), (32, o.2.2.2.2.1), (33, o.2.2.2.2.2.1), (34, o.2.2.2.2.2.2.2.2.2.1), (35, o.2.2.2.2.2.2.2.2.2.2.1)]) (up mi [(0, q.2.1), (1, q.2.2.1), (2, q.2.2.2.1), (13, q.2.2.2.2.2.2.2.2.1), (19, q.2.2.2.2.2.2.2.2.2.1), (20, q.2.2.2.2.2.2.2.2.2.2.1), (21, q.2.2.2.2.2.2.2.2.2.2.2.1), (22, q.2.2.2.2.2.2.2.2.2.2.2.2.2)]) (up mf [(5, q.2.2.2.2.1), (6, q.2.2.2.2.2.1), (7, q.2.2.2.2.2.2.1), (8, q.2.2.2.2.2.2.2.1), (9, q.2.2.2.2.2.2.2.2.2.2.2.2.1)]) ri rf kl kb kf ks kw mlM mbM mfM msM mwM := by
  obtain ⟨R, l, hC, hR, D, D2, hN, hM, hK⟩ := hr
  obtain ⟨d64, d65, d66, d67, d68, d69, d70, d71, dk, dw, db, hm, da, du, hb, hs, hbw, hbd⟩ := id D
  obtain ⟨r0, r1, r2, r3, r4, r5, r6, r7, ek, ew, eb, hm2, ea, eu, hb2, hs2, hbw2, hbd2⟩ := id D2
  have T : tR R (cf 49) (cf 50) (cf 51) (cf 53) (cf 54) := ⟨dk, dw, db, da, du⟩
  have T2 : tR R (rf 0) (rf 1) (rf 2) (rf 4) (rf 5) := ⟨ek, ew, eb, ea, eu⟩
  obtain ⟨⟨L, U, f, sd, V⟩, ⟨a18, a19, a20, a21, hwr⟩, hv, ⟨hL, hU, hdj, hsd, hVc⟩, hf9⟩ := id hN
  replace a18 : ci 18 = nI L := a18
  replace a19 : ci 19 = nI U := a19
  replace a20 : ci 20 = nI f := a20
  replace a21 : ci 21 = nI sd := a21
  replace hwr : rw_ (R 0 1) (cf 13) V := hwr
  replace hv : vR (R 0 1) (mf 1) L U f sd V := hv
  replace hL : L < 2 ^ R 0 1 := hL
  replace hU : U < 2 ^ R 0 1 := hU
  replace hdj : dj L U := hdj
  replace hsd : sd ≤ 65536 := hsd
  replace hVc : ∀ j, j < R 0 1 → V j ≤ cap := hVc
  replace hf9 : f ≤ 999 := hf9
  have hV : ∀ j, j < R 0 1 → V j < 2 ^ 20 := fun j hj => Nat.lt_of_le_of_lt (hVc j hj) (Nat.lt_trans hcap (by decide))
  have hf : f < 2 ^ 16 := Nat.lt_of_le_of_lt hf9 (by decide)
  have hq : qOK R cap (L, U, sd, V) := ⟨hL, hU, hdj, hsd, hVc⟩
  rw [a18, a20, d66, d67, r2, r3]
  obtain ⟨o, q, e1, e2, h1, h2, h3, h5, h6, h7⟩ := j_askLeaves hR hL hf9 T T2 hv hm hm2 (cf 29) (cf 30) (cf 31) (cf 32) (cf 33) (ci 45) (ci 46) (ci 47) (cf 34) (cf 35) hC.2.2.2.2 (ci 40) (ci 41) (ci 42) (ci 43) (ci 44) (ci 0) (mi 0) (mi 1) (mi 2) (mf 5) (mf 6) (mf 7) (mf 8) (mi 13) (mi 19) (mi 20) (mi 21) (mf 9) (mi 22)
  exact ⟨o, q, e1, e2, h1.symm, R, l, ⟨hC.1, hC.2.1, h3, wh_n (ne4_z h6) h5, h7⟩, hR, D, D2, nowE_up (Nat.le_succ _) hN, memE_up (Nat.le_succ _) hM, mrkE_up (Nat.le_succ _) hK⟩
set_option maxHeartbeats 2000000 in
theorem pU_35 {ci : Nat → Int32} {cf : Nat → Nat → Int32} {mi : Nat → Int32} {mf : Nat → Nat → Int32} (hr : rlU ci cf mi mf) : ∃ o q, f_X10_askLeaves (ci 18) (ci 20) (cf 29) (cf 30) (cf 31) (cf 32) (cf 33) (ci 45) (ci 46) (ci 47) (cf 34) (cf 35) (ci 40) (ci 41) (ci 42) (ci 43) (ci 44) (ci 66) (ci 67) (cf 49) (cf 50) (cf 51) (cf 52) (cf 53) (cf 54) (ci 0) = some o ∧ f_X12_askLeavesN (mi 0) (mi 1) (mi 2) = some q ∧ o.1 = q.1 ∧ rlU (up ci [(0, o.2.2.2.2.2.2.2.2.2.2.2.2.2.2.2.2), (40, o.2.2.2.2.2.2.2.2.2.2.2.1), (41, o.2.2.2.2.2.2.2.2.2.2.2.2.1), (42, o.2.2.2.2.2.2.2.2.2.2.2.2.2.1), (43, o.2.2.2.2.2.2.2.2.2.2.2.2.2.2.1), (44, o.2.2.2.2.2.2.2.2.2.2.2.2.2.2.2.1), (45, o.2.2.2.2.2.2.1), (46, o.2.2.2.2.2.2.2.1), (47, o.2.2.2.2.2.2.2.2.1)]) (up cf [(29, o.2.1), (30, o.2.2.1), (31, o.2.2.2.1), (32, o.2.2.2.2.1), (33, o.2.2.2.2.2.1), (34, o.2.2.2.2.2.2.2.2.2.1), (35, o.2.2.2.2.2.2.2.2.2.2.1)]) (up mi [(0, q.2.1), (1, q.2.2.1), (2, q.2.2.2)]) mf := by
  obtain ⟨hC, u20, u21, u23, u24, u64, u65, u66, u67, u68, u69, u70⟩ := hr
  rw [u66, u67]
  exact ⟨_, _, n_askLeaves2 (ci 18) (ci 20) (cf 29) (cf 30) (cf 31) (cf 32) (cf 33) (ci 45) (ci 46) (ci 47) (cf 34) (cf 35) (ci 40) (ci 41) (ci 42) (ci 43) (ci 44) (cf 49) (cf 50) (cf 51) (cf 52) (cf 53) (cf 54) (ci 0), q_askLeaves _ _ _ , rfl, ⟨hC.1, hC.2.1, rfl, wh_n (show ¬ (1 : Int32) = 4 by decide) rfl, hC.2.2.2.2⟩, u20, u21, u23, u24, u64, u65, u66, u67, u68, u69, u70⟩
set_option maxHeartbeats 2000000 in
theorem pT_36 {cap : Nat} (hcap : cap < 2 ^ 15) {ci : Nat → Int32} {cf : Nat → Nat → Int32} {mi : Nat → Int32} {mf : Nat → Nat → Int32} {ri : Nat → Int32} {rf : Nat → Nat → Int32} {kl kb kf ks : Nat → Int32} {kw : Nat → Nat → Int32} {mlM mbM mfM msM : Nat → Int32} {mwM : Nat → Nat → Int32} (hr : rlT cap ci cf mi mf ri rf kl kb kf ks kw mlM mbM mfM msM mwM) : ∃ o q, f_X10_judge (ci 18) (ci 20) (cf 14) (cf 15) (cf 16) (cf 17) (cf 18) (ci 25) (ci 26) (ci 27) (ci 66) (ci 67) (cf 49) (cf 50) (cf 51) (cf 52) (cf 53) (cf 54) (ci 0) = some o ∧ f_X12_judge (mi 0) (mi 1) (mi 2) (ri 2) (ri 3) (rf 0) (rf 1) (rf 2) (rf 3) (rf 4) (rf 5) (mf 1) (mf 5) (mf 6) (mf 7) (mf 8) (mi 13) = some q ∧ o.1 = q.1 ∧ rlT (cap + 1) (up ci [(0, o.2.2.2.2.2.2.2.2.2), (25, o.2.2.2.2.2.2.1), (26, o.2.2.2.2.2.2.2.1), (27, o.2.2.2.2.2.2.2.2.1)]) (up cf [(14, o.2.1), (15, o.2.2.1), (16, o.2.2.2.1), (17, o.2.2.2.2.1), (18, o.2.2.2.2.2.1)]) (up mi [(0, q.2.1), (1, q.2.2.1), (2, q.2.2.2.1), (13, q.2.2.2.2.2.2.2.2)]) (up mf [(5, q.2.2.2.2.1), (6, q.2.2.2.2.2.1), (7, q.2.2.2.2.2.2.1), (8, q.2.2.2.2.2.2.2.1)]) ri rf kl kb kf ks kw mlM mbM mfM msM mwM := by
  obtain ⟨R, l, hC, hR, D, D2, hN, hM, hK⟩ := hr
  obtain ⟨d64, d65, d66, d67, d68, d69, d70, d71, dk, dw, db, hm, da, du, hb, hs, hbw, hbd⟩ := id D
  obtain ⟨r0, r1, r2, r3, r4, r5, r6, r7, ek, ew, eb, hm2, ea, eu, hb2, hs2, hbw2, hbd2⟩ := id D2
  have T : tR R (cf 49) (cf 50) (cf 51) (cf 53) (cf 54) := ⟨dk, dw, db, da, du⟩
  have T2 : tR R (rf 0) (rf 1) (rf 2) (rf 4) (rf 5) := ⟨ek, ew, eb, ea, eu⟩
  obtain ⟨⟨L, U, f, sd, V⟩, ⟨a18, a19, a20, a21, hwr⟩, hv, ⟨hL, hU, hdj, hsd, hVc⟩, hf9⟩ := id hN
  replace a18 : ci 18 = nI L := a18
  replace a19 : ci 19 = nI U := a19
  replace a20 : ci 20 = nI f := a20
  replace a21 : ci 21 = nI sd := a21
  replace hwr : rw_ (R 0 1) (cf 13) V := hwr
  replace hv : vR (R 0 1) (mf 1) L U f sd V := hv
  replace hL : L < 2 ^ R 0 1 := hL
  replace hU : U < 2 ^ R 0 1 := hU
  replace hdj : dj L U := hdj
  replace hsd : sd ≤ 65536 := hsd
  replace hVc : ∀ j, j < R 0 1 → V j ≤ cap := hVc
  replace hf9 : f ≤ 999 := hf9
  have hV : ∀ j, j < R 0 1 → V j < 2 ^ 20 := fun j hj => Nat.lt_of_le_of_lt (hVc j hj) (Nat.lt_trans hcap (by decide))
  have hf : f < 2 ^ 16 := Nat.lt_of_le_of_lt hf9 (by decide)
  have hq : qOK R cap (L, U, sd, V) := ⟨hL, hU, hdj, hsd, hVc⟩
  rw [a18, a20, d66, d67, r2, r3]
  obtain ⟨ans, t, ⟨w, co, de, sp, ha, be, al, si, e1⟩, wi, wa, de2, sp2, be2, e2⟩ := j_judge hR hL hf T T2 hv hm hm2 (cf 14) (cf 15) (cf 16) (cf 17) (cf 18) (ci 25) (ci 26) (ci 27) (ci 0) (mi 0) (mi 1) (mi 2) (mf 5) (mf 6) (mf 7) (mf 8) (mi 13)
  have h4 : ¬ t = 4 := nt_judge _ _ _ _ _ _ _ _ _ _ _ _ _ _ _ _ _ _ _  _ e1
  exact ⟨_, _, e1, e2, rfl, R, l, ⟨hC.1, hC.2.1, rfl, wh_n h4 rfl, hC.2.2.2.2⟩, hR, D, D2, nowE_up (Nat.le_succ _) hN, memE_up (Nat.le_succ _) hM, mrkE_up (Nat.le_succ _) hK⟩
set_option maxHeartbeats 2000000 in
theorem pU_36 {ci : Nat → Int32} {cf : Nat → Nat → Int32} {mi : Nat → Int32} {mf : Nat → Nat → Int32} (hr : rlU ci cf mi mf) : ∃ o q, f_X10_judge (ci 18) (ci 20) (cf 14) (cf 15) (cf 16) (cf 17) (cf 18) (ci 25) (ci 26) (ci 27) (ci 66) (ci 67) (cf 49) (cf 50) (cf 51) (cf 52) (cf 53) (cf 54) (ci 0) = some o ∧ f_X12_judgeN (mi 0) (mi 1) (mi 2) = some q ∧ o.1 = q.1 ∧ rlU (up ci [(0, o.2.2.2.2.2.2.2.2.2), (25, o.2.2.2.2.2.2.1), (26, o.2.2.2.2.2.2.2.1), (27, o.2.2.2.2.2.2.2.2.1)]) (up cf [(14, o.2.1), (15, o.2.2.1), (16, o.2.2.2.1), (17, o.2.2.2.2.1), (18, o.2.2.2.2.2.1)]) (up mi [(0, q.2.1), (1, q.2.2.1), (2, q.2.2.2)]) mf := by
  obtain ⟨hC, u20, u21, u23, u24, u64, u65, u66, u67, u68, u69, u70⟩ := hr
  rw [u66, u67]
  obtain ⟨o, e1, h1, h2⟩ := n_judge (ci 18) (ci 20) (cf 14) (cf 15) (cf 16) (cf 17) (cf 18) (ci 25) (ci 26) (ci 27) (cf 49) (cf 50) (cf 51) (cf 52) (cf 53) (cf 54) (ci 0)
  exact ⟨o, _, e1, q_judge _ _ _ , h1, ⟨hC.1, hC.2.1, h2.symm, wh_n (ne4_1 h2) rfl, hC.2.2.2.2⟩, u20, u21, u23, u24, u64, u65, u66, u67, u68, u69, u70⟩
set_option maxHeartbeats 2000000 in
theorem pT_37 {cap : Nat} (hcap : cap < 2 ^ 15) {ci : Nat → Int32} {cf : Nat → Nat → Int32} {mi : Nat → Int32} {mf : Nat → Nat → Int32} {ri : Nat → Int32} {rf : Nat → Nat → Int32} {kl kb kf ks : Nat → Int32} {kw : Nat → Nat → Int32} {mlM mbM mfM msM : Nat → Int32} {mwM : Nat → Nat → Int32} (hr : rlT cap ci cf mi mf ri rf kl kb kf ks kw mlM mbM mfM msM mwM) (x1 x2 x3 : Int32) : ∃ o q, f_X10_parish x1 x2 x3 (ci 18) (ci 20) (cf 36) (cf 37) (cf 38) (cf 39) (cf 40) (ci 52) (ci 53) (ci 54) (ci 48) (ci 49) (ci 66) (ci 67) (cf 49) (cf 50) (cf 51) (cf 53) (cf 54) (ci 0) = some o ∧ f_X12_parish x1 x2 x3 (mi 0) (mi 1) (mi 2) (ri 2) (ri 3) (rf 0) (rf 1) (rf 2) (rf 4) (rf 5) (mf 1) (mf 5) (mf 6) (mf 7) (mf 8) (mi 13) (mf 10) (mf 11) = some q ∧ o.1 = q.1 ∧ rlT (cap + 1) (up ci [(0, o.2.2.2.2.2.2.2.2.2.2.2), (48, o.2.2.2.2.2.2.2.2.2.1), (49, o.2.2.2.2.2.2.2.2.2.2.1), (52, o.2.2.2.2.2.2.1), (53, o.2.2.2.2.2.2.2.1), (54, o.2.2.2.2.2.2.2.2.1)]) (up cf [(36, o.2.1), (37, o.2.2.1), (38, o.2.2.2.1), (39, o.2.2.2.2.1), (40, o.2.2.2.2.2.1)]) (up mi [(0, q.2.1), (1, q.2.2.1), (2, q.2.2.2.1), (13, q.2.2.2.2.2.2.2.2.1)]) (up mf [(5, q.2.2.2.2.1), (6, q.2.2.2.2.2.1), (7, q.2.2.2.2.2.2.1), (8, q.2.2.2.2.2.2.2.1), (10, q.2.2.2.2.2.2.2.2.2.1), (11, q.2.2.2.2.2.2.2.2.2.2)]) ri rf kl kb kf ks kw mlM mbM mfM msM mwM := by
  obtain ⟨R, l, hC, hR, D, D2, hN, hM, hK⟩ := hr
  obtain ⟨d64, d65, d66, d67, d68, d69, d70, d71, dk, dw, db, hm, da, du, hb, hs, hbw, hbd⟩ := id D
  obtain ⟨r0, r1, r2, r3, r4, r5, r6, r7, ek, ew, eb, hm2, ea, eu, hb2, hs2, hbw2, hbd2⟩ := id D2
  have T : tR R (cf 49) (cf 50) (cf 51) (cf 53) (cf 54) := ⟨dk, dw, db, da, du⟩
  have T2 : tR R (rf 0) (rf 1) (rf 2) (rf 4) (rf 5) := ⟨ek, ew, eb, ea, eu⟩
  obtain ⟨⟨L, U, f, sd, V⟩, ⟨a18, a19, a20, a21, hwr⟩, hv, ⟨hL, hU, hdj, hsd, hVc⟩, hf9⟩ := id hN
  replace a18 : ci 18 = nI L := a18
  replace a19 : ci 19 = nI U := a19
  replace a20 : ci 20 = nI f := a20
  replace a21 : ci 21 = nI sd := a21
  replace hwr : rw_ (R 0 1) (cf 13) V := hwr
  replace hv : vR (R 0 1) (mf 1) L U f sd V := hv
  replace hL : L < 2 ^ R 0 1 := hL
  replace hU : U < 2 ^ R 0 1 := hU
  replace hdj : dj L U := hdj
  replace hsd : sd ≤ 65536 := hsd
  replace hVc : ∀ j, j < R 0 1 → V j ≤ cap := hVc
  replace hf9 : f ≤ 999 := hf9
  have hV : ∀ j, j < R 0 1 → V j < 2 ^ 20 := fun j hj => Nat.lt_of_le_of_lt (hVc j hj) (Nat.lt_trans hcap (by decide))
  have hf : f < 2 ^ 16 := Nat.lt_of_le_of_lt hf9 (by decide)
  have hq : qOK R cap (L, U, sd, V) := ⟨hL, hU, hdj, hsd, hVc⟩
  rw [a18, a20, d66, d67, r2, r3]
  obtain ⟨o, q, e1, e2, h1, h2, h3, h5, h6⟩ := j_parish hR hL hf T T2 hv x1 x2 x3 (cf 36) (cf 37) (cf 38) (cf 39) (cf 40) (ci 52) (ci 53) (ci 54) (ci 48) (ci 49) (ci 0) (mi 0) (mi 1) (mi 2) (mf 5) (mf 6) (mf 7) (mf 8) (mi 13) (mf 10) (mf 11)
  exact ⟨o, q, e1, e2, h1.symm, R, l, ⟨hC.1, hC.2.1, h3, wh_n h6 h5, hC.2.2.2.2⟩, hR, D, D2, nowE_up (Nat.le_succ _) hN, memE_up (Nat.le_succ _) hM, mrkE_up (Nat.le_succ _) hK⟩
set_option maxHeartbeats 2000000 in
theorem pU_37 {ci : Nat → Int32} {cf : Nat → Nat → Int32} {mi : Nat → Int32} {mf : Nat → Nat → Int32} (hr : rlU ci cf mi mf) (x1 x2 x3 : Int32) : ∃ o q, f_X10_parish x1 x2 x3 (ci 18) (ci 20) (cf 36) (cf 37) (cf 38) (cf 39) (cf 40) (ci 52) (ci 53) (ci 54) (ci 48) (ci 49) (ci 66) (ci 67) (cf 49) (cf 50) (cf 51) (cf 53) (cf 54) (ci 0) = some o ∧ f_X12_parishN x1 x2 x3 (mi 0) (mi 1) (mi 2) (mf 10) (mf 11) = some q ∧ o.1 = q.1 ∧ rlU (up ci [(0, o.2.2.2.2.2.2.2.2.2.2.2), (48, o.2.2.2.2.2.2.2.2.2.1), (49, o.2.2.2.2.2.2.2.2.2.2.1), (52, o.2.2.2.2.2.2.1), (53, o.2.2.2.2.2.2.2.1), (54, o.2.2.2.2.2.2.2.2.1)]) (up cf [(36, o.2.1), (37, o.2.2.1), (38, o.2.2.2.1), (39, o.2.2.2.2.1), (40, o.2.2.2.2.2.1)]) (up mi [(0, q.2.1), (1, q.2.2.1), (2, q.2.2.2)]) mf := by
  obtain ⟨hC, u20, u21, u23, u24, u64, u65, u66, u67, u68, u69, u70⟩ := hr
  rw [u66, u67]
  obtain ⟨o, e1, h1, h2⟩ := n_parish x1 x2 x3 (ci 18) (ci 20) (cf 36) (cf 37) (cf 38) (cf 39) (cf 40) (ci 52) (ci 53) (ci 54) (ci 48) (ci 49) (cf 49) (cf 50) (cf 51) (cf 53) (cf 54) (ci 0)
  exact ⟨o, _, e1, q_parish _ _ _ _ _ _ _ _ , h1, ⟨hC.1, hC.2.1, h2.symm, wh_n (ne4_1 h2) rfl, hC.2.2.2.2⟩, u20, u21, u23, u24, u64, u65, u66, u67, u68, u69, u70⟩
set_option maxHeartbeats 2000000 in
theorem pT_38 {cap : Nat} (hcap : cap < 2 ^ 15) {ci : Nat → Int32} {cf : Nat → Nat → Int32} {mi : Nat → Int32} {mf : Nat → Nat → Int32} {ri : Nat → Int32} {rf : Nat → Nat → Int32} {kl kb kf ks : Nat → Int32} {kw : Nat → Nat → Int32} {mlM mbM mfM msM : Nat → Int32} {mwM : Nat → Nat → Int32} (hr : rlT cap ci cf mi mf ri rf kl kb kf ks kw mlM mbM mfM msM mwM) : ∃ o q, f_X10_rests (ci 18) (ci 20) (cf 36) (cf 37) (cf 38) (cf 39) (cf 40) (ci 52) (ci 53) (ci 54) (cf 41) (cf 42) (ci 48) (ci 49) (ci 50) (ci 51) (ci 66) (ci 67) (cf 49) (cf 50) (cf 51) (cf 53) (cf 54) (ci 0) = some o ∧ f_X12_rests (mi 0) (mi 1) (mi 2) (ri 2) (ri 3) (rf 0) (rf 1) (rf 2) (rf 4) (rf 5) (mf 1) (mf 5) (mf 6) (mf 7) (mf 8) (mi 13) (mf 10) (mf 11) = some q ∧ o.1 = q.1 ∧ rlT (cap + 1) (up ci [(0, o.2.2.2.2.2.2.2.2.2.2.2.2.2.2.2), (48, o.2.2.2.2.2.2.2.2.2.2.2.1), (49, o.2.2.2.2.2.2.2.2.2.2.2.2.1), (50, o.2.2.2.2.2.2.2.2.2.2.2.2.2.1), (51, o.2.2.2.2.2.2.2.2.2.2.2.2.2.2.1), (52, o.2.2.2.2.2.2.1), (53, o.2.2.2.2.2.2.2.1), (54, o.2.2.2.2.2.2.2.2.1)]) (up cf [(36, o.2.1), (37, o.2.2.1), (38, o.2.2.2.1), (39, o.2.2.2.2.1), (40, o.2.2.2.2.2.1), (41, o.2.2.2.2.2.2.2.2.2.1), (42, o.2.2.2.2.2.2.2.2.2.2.1)]) (up mi [(0, q.2.1), (1, q.2.2.1), (2, q.2.2.2.1), (13, q.2.2.2.2.2.2.2.2.1)]) (up mf [(5, q.2.2.2.2.1), (6, q.2.2.2.2.2.1), (7, q.2.2.2.2.2.2.1), (8, q.2.2.2.2.2.2.2.1), (10, q.2.2.2.2.2.2.2.2.2.1), (11, q.2.2.2.2.2.2.2.2.2.2)]) ri rf kl kb kf ks kw mlM mbM mfM msM mwM := by
  obtain ⟨R, l, hC, hR, D, D2, hN, hM, hK⟩ := hr
  obtain ⟨d64, d65, d66, d67, d68, d69, d70, d71, dk, dw, db, hm, da, du, hb, hs, hbw, hbd⟩ := id D
  obtain ⟨r0, r1, r2, r3, r4, r5, r6, r7, ek, ew, eb, hm2, ea, eu, hb2, hs2, hbw2, hbd2⟩ := id D2
  have T : tR R (cf 49) (cf 50) (cf 51) (cf 53) (cf 54) := ⟨dk, dw, db, da, du⟩
  have T2 : tR R (rf 0) (rf 1) (rf 2) (rf 4) (rf 5) := ⟨ek, ew, eb, ea, eu⟩
  obtain ⟨⟨L, U, f, sd, V⟩, ⟨a18, a19, a20, a21, hwr⟩, hv, ⟨hL, hU, hdj, hsd, hVc⟩, hf9⟩ := id hN
  replace a18 : ci 18 = nI L := a18
  replace a19 : ci 19 = nI U := a19
  replace a20 : ci 20 = nI f := a20
  replace a21 : ci 21 = nI sd := a21
  replace hwr : rw_ (R 0 1) (cf 13) V := hwr
  replace hv : vR (R 0 1) (mf 1) L U f sd V := hv
  replace hL : L < 2 ^ R 0 1 := hL
  replace hU : U < 2 ^ R 0 1 := hU
  replace hdj : dj L U := hdj
  replace hsd : sd ≤ 65536 := hsd
  replace hVc : ∀ j, j < R 0 1 → V j ≤ cap := hVc
  replace hf9 : f ≤ 999 := hf9
  have hV : ∀ j, j < R 0 1 → V j < 2 ^ 20 := fun j hj => Nat.lt_of_le_of_lt (hVc j hj) (Nat.lt_trans hcap (by decide))
  have hf : f < 2 ^ 16 := Nat.lt_of_le_of_lt hf9 (by decide)
  have hq : qOK R cap (L, U, sd, V) := ⟨hL, hU, hdj, hsd, hVc⟩
  rw [a18, a20, d66, d67, r2, r3]
  obtain ⟨o, q, e1, e2, h1, h2, h3, h5, h6⟩ := j_rests hR hL hf T T2 hv (cf 36) (cf 37) (cf 38) (cf 39) (cf 40) (ci 52) (ci 53) (ci 54) (cf 41) (cf 42) (ci 48) (ci 49) (ci 50) (ci 51) (ci 0) (mi 0) (mi 1) (mi 2) (mf 5) (mf 6) (mf 7) (mf 8) (mi 13) (mf 10) (mf 11)
  exact ⟨o, q, e1, e2, h1.symm, R, l, ⟨hC.1, hC.2.1, h3, wh_n h6 h5, hC.2.2.2.2⟩, hR, D, D2, nowE_up (Nat.le_succ _) hN, memE_up (Nat.le_succ _) hM, mrkE_up (Nat.le_succ _) hK⟩
set_option maxHeartbeats 2000000 in
theorem pU_38 {ci : Nat → Int32} {cf : Nat → Nat → Int32} {mi : Nat → Int32} {mf : Nat → Nat → Int32} (hr : rlU ci cf mi mf) : ∃ o q, f_X10_rests (ci 18) (ci 20) (cf 36) (cf 37) (cf 38) (cf 39) (cf 40) (ci 52) (ci 53) (ci 54) (cf 41) (cf 42) (ci 48) (ci 49) (ci 50) (ci 51) (ci 66) (ci 67) (cf 49) (cf 50) (cf 51) (cf 53) (cf 54) (ci 0) = some o ∧ f_X12_restsN (mi 0) (mi 1) (mi 2) (mf 10) (mf 11) = some q ∧ o.1 = q.1 ∧ rlU (up ci [(0, o.2.2.2.2.2.2.2.2.2.2.2.2.2.2.2), (48, o.2.2.2.2.2.2.2.2.2.2.2.1), (49, o.2.2.2.2.2.2.2.2.2.2.2.2.1), (50, o.2.2.2.2.2.2.2.2.2.2.2.2.2.1), (51, o.2.2.2.2.2.2.2.2.2.2.2.2.2.2.1), (52, o.2.2.2.2.2.2.1), (53, o.2.2.2.2.2.2.2.1), (54, o.2.2.2.2.2.2.2.2.1)]) (up cf [(36, o.2.1), (37, o.2.2.1), (38, o.2.2.2.1), (39, o.2.2.2.2.1), (40, o.2.2.2.2.2.1), (41, o.2.2.2.2.2.2.2.2.2.1), (42, o.2.2.2.2.2.2.2.2.2.2.1)]) (up mi [(0, q.2.1), (1, q.2.2.1), (2, q.2.2.2)]) mf := by
  obtain ⟨hC, u20, u21, u23, u24, u64, u65, u66, u67, u68, u69, u70⟩ := hr
  rw [u66, u67]
  obtain ⟨o, e1, h1, h2⟩ := n_rests (ci 18) (ci 20) (cf 36) (cf 37) (cf 38) (cf 39) (cf 40) (ci 52) (ci 53) (ci 54) (cf 41) (cf 42) (ci 48) (ci 49) (ci 50) (ci 51) (cf 49) (cf 50) (cf 51) (cf 53) (cf 54) (ci 0)
  exact ⟨o, _, e1, q_rests _ _ _ _ _ , h1, ⟨hC.1, hC.2.1, h2.symm, wh_n (ne4_1 h2) rfl, hC.2.2.2.2⟩, u20, u21, u23, u24, u64, u65, u66, u67, u68, u69, u70⟩
set_option maxHeartbeats 2000000 in
theorem pT_39 {cap : Nat} (hcap : cap < 2 ^ 15) {ci : Nat → Int32} {cf : Nat → Nat → Int32} {mi : Nat → Int32} {mf : Nat → Nat → Int32} {ri : Nat → Int32} {rf : Nat → Nat → Int32} {kl kb kf ks : Nat → Int32} {kw : Nat → Nat → Int32} {mlM mbM mfM msM : Nat → Int32} {mwM : Nat → Nat → Int32} (hr : rlT cap ci cf mi mf ri rf kl kb kf ks kw mlM mbM mfM msM mwM) : ∃ o q, f_X10_rest (ci 18) (ci 20) (cf 36) (cf 37) (cf 38) (cf 39) (cf 40) (ci 52) (ci 53) (ci 54) (cf 41) (cf 42) (ci 48) (ci 49) (ci 50) (ci 51) (ci 66) (ci 67) (cf 49) (cf 50) (cf 51) (cf 53) (cf 54) (ci 0) = some o ∧ f_X12_rest (mi 0) (mi 1) (mi 2) (ri 2) (ri 3) (rf 0) (rf 1) (rf 2) (rf 4) (rf 5) (mf 1) (mf 5) (mf 6) (mf 7) (mf 8) (mi 13) (mf 10) (mf 11) = some q ∧ o.1 = q.1 ∧ rlT (cap + 1) (up ci [(0, o.2.2.2.2.2.2.2.2.2.2.2.2.2.2.2), (48, o.2.2.2.2.2.2.2.2.2.2.2.1), (49, o.2.2.2.2.2.2.2.2.2.2.2.2.1), (50, o.2.2.2.2.2.2.2.2.2.2.2.2.2.1), (51, o.2.2.2.2.2.2.2.2.2.2.2.2.2.2.1), (52, o.2.2.2.2.2.2.1), (53, o.2.2.2.2.2.2.2.1), (54, o.2.2.2.2.2.2.2.2.1)]) (up cf [(36, o.2.1), (37, o.2.2.1), (38, o.2.2.2.1), (39, o.2.2.2.2.1), (40, o.2.2.2.2.2.1), (41, o.2.2.2.2.2.2.2.2.2.1), (42, o.2.2.2.2.2.2.2.2.2.2.1)]) (up mi [(0, q.2.1), (1, q.2.2.1), (2, q.2.2.2.1), (13, q.2.2.2.2.2.2.2.2.1)]) (up mf [(5, q.2.2.2.2.1), (6, q.2.2.2.2.2.1), (7, q.2.2.2.2.2.2.1), (8, q.2.2.2.2.2.2.2.1), (10, q.2.2.2.2.2.2.2.2.2.1), (11, q.2.2.2.2.2.2.2.2.2.2)]) ri rf kl kb kf ks kw mlM mbM mfM msM mwM := by
  obtain ⟨R, l, hC, hR, D, D2, hN, hM, hK⟩ := hr
  obtain ⟨d64, d65, d66, d67, d68, d69, d70, d71, dk, dw, db, hm, da, du, hb, hs, hbw, hbd⟩ := id D
  obtain ⟨r0, r1, r2, r3, r4, r5, r6, r7, ek, ew, eb, hm2, ea, eu, hb2, hs2, hbw2, hbd2⟩ := id D2
  have T : tR R (cf 49) (cf 50) (cf 51) (cf 53) (cf 54) := ⟨dk, dw, db, da, du⟩
  have T2 : tR R (rf 0) (rf 1) (rf 2) (rf 4) (rf 5) := ⟨ek, ew, eb, ea, eu⟩
  obtain ⟨⟨L, U, f, sd, V⟩, ⟨a18, a19, a20, a21, hwr⟩, hv, ⟨hL, hU, hdj, hsd, hVc⟩, hf9⟩ := id hN
  replace a18 : ci 18 = nI L := a18
  replace a19 : ci 19 = nI U := a19
  replace a20 : ci 20 = nI f := a20
  replace a21 : ci 21 = nI sd := a21
  replace hwr : rw_ (R 0 1) (cf 13) V := hwr
  replace hv : vR (R 0 1) (mf 1) L U f sd V := hv
  replace hL : L < 2 ^ R 0 1 := hL
  replace hU : U < 2 ^ R 0 1 := hU
  replace hdj : dj L U := hdj
  replace hsd : sd ≤ 65536 := hsd
  replace hVc : ∀ j, j < R 0 1 → V j ≤ cap := hVc
  replace hf9 : f ≤ 999 := hf9
  have hV : ∀ j, j < R 0 1 → V j < 2 ^ 20 := fun j hj => Nat.lt_of_le_of_lt (hVc j hj) (Nat.lt_trans hcap (by decide))
  have hf : f < 2 ^ 16 := Nat.lt_of_le_of_lt hf9 (by decide)
  have hq : qOK R cap (L, U, sd, V) := ⟨hL, hU, hdj, hsd, hVc⟩
  rw [a18, a20, d66, d67, r2, r3]
  obtain ⟨o, q, e1, e2, h1, h2, h3, h5, h6⟩ := j_rest hR hL hf T T2 hv (cf 36) (cf 37) (cf 38) (cf 39) (cf 40) (ci 52) (ci 53) (ci 54) (cf 41) (cf 42) (ci 48) (ci 49) (ci 50) (ci 51) (ci 0) (mi 0) (mi 1) (mi 2) (mf 5) (mf 6) (mf 7) (mf 8) (mi 13) (mf 10) (mf 11)
  exact ⟨o, q, e1, e2, h1.symm, R, l, ⟨hC.1, hC.2.1, h3, wh_n h6 h5, hC.2.2.2.2⟩, hR, D, D2, nowE_up (Nat.le_succ _) hN, memE_up (Nat.le_succ _) hM, mrkE_up (Nat.le_succ _) hK⟩
set_option maxHeartbeats 2000000 in
theorem pU_39 {ci : Nat → Int32} {cf : Nat → Nat → Int32} {mi : Nat → Int32} {mf : Nat → Nat → Int32} (hr : rlU ci cf mi mf) : ∃ o q, f_X10_rest (ci 18) (ci 20) (cf 36) (cf 37) (cf 38) (cf 39) (cf 40) (ci 52) (ci 53) (ci 54) (cf 41) (cf 42) (ci 48) (ci 49) (ci 50) (ci 51) (ci 66) (ci 67) (cf 49) (cf 50) (cf 51) (cf 53) (cf 54) (ci 0) = some o ∧ f_X12_restN (mi 0) (mi 1) (mi 2) (mf 10) (mf 11) = some q ∧ o.1 = q.1 ∧ rlU (up ci [(0, o.2.2.2.2.2.2.2.2.2.2.2.2.2.2.2), (48, o.2.2.2.2.2.2.2.2.2.2.2.1), (49, o.2.2.2.2.2.2.2.2.2.2.2.2.1), (50, o.2.2.2.2.2.2.2.2.2.2.2.2.2.1), (51, o.2.2.2.2.2.2.2.2.2.2.2.2.2.2.1), (52, o.2.2.2.2.2.2.1), (53, o.2.2.2.2.2.2.2.1), (54, o.2.2.2.2.2.2.2.2.1)]) (up cf [(36, o.2.1), (37, o.2.2.1), (38, o.2.2.2.1), (39, o.2.2.2.2.1), (40, o.2.2.2.2.2.1), (41, o.2.2.2.2.2.2.2.2.2.1), (42, o.2.2.2.2.2.2.2.2.2.2.1)]) (up mi [(0, q.2.1), (1, q.2.2.1), (2, q.2.2.2)]) mf := by
  obtain ⟨hC, u20, u21, u23, u24, u64, u65, u66, u67, u68, u69, u70⟩ := hr
  rw [u66, u67]
  obtain ⟨o, e1, h1, h2⟩ := n_rest (ci 18) (ci 20) (cf 36) (cf 37) (cf 38) (cf 39) (cf 40) (ci 52) (ci 53) (ci 54) (cf 41) (cf 42) (ci 48) (ci 49) (ci 50) (ci 51) (cf 49) (cf 50) (cf 51) (cf 53) (cf 54) (ci 0)
  exact ⟨o, _, e1, q_rest _ _ _ _ _ , h1, ⟨hC.1, hC.2.1, h2.symm, wh_n (ne4_1 h2) rfl, hC.2.2.2.2⟩, u20, u21, u23, u24, u64, u65, u66, u67, u68, u69, u70⟩
set_option maxHeartbeats 2000000 in
theorem pT_40 {cap : Nat} (hcap : cap < 2 ^ 15) {ci : Nat → Int32} {cf : Nat → Nat → Int32} {mi : Nat → Int32} {mf : Nat → Nat → Int32} {ri : Nat → Int32} {rf : Nat → Nat → Int32} {kl kb kf ks : Nat → Int32} {kw : Nat → Nat → Int32} {mlM mbM mfM msM : Nat → Int32} {mwM : Nat → Nat → Int32} (hr : rlT cap ci cf mi mf ri rf kl kb kf ks kw mlM mbM mfM msM mwM) (x1 x2 : Int32) : ∃ o q, f_X10_century x1 x2 (ci 18) (ci 19) (ci 20) (ci 21) (cf 13) (cf 43) (cf 44) (cf 45) (cf 46) (cf 47) (ci 57) (ci 58) (ci 59) (ci 60) (ci 61) (ci 62) (ci 63) (cf 48) (ci 55) (ci 56) (ci 64) (ci 66) (ci 67) (cf 49) (cf 50) (cf 51) (cf 53) (cf 54) (cf 55) (ci 0) = some o ∧ f_X12_century x1 x2 (mi 0) (mi 1) (mi 2) (ri 0) (ri 2) (ri 3) (rf 0) (rf 1) (rf 2) (rf 4) (rf 5) (rf 6) (mf 1) (mf 2) (mf 5) (mf 6) (mf 7) (mf 8) (mi 13) (mi 23) = some q ∧ o.1 = q.1 ∧ rlT (cap + 1) (up ci [(0, o.2.2.2.2.2.2.2.2.2.2.2.2.2.2.2.2), (55, o.2.2.2.2.2.2.2.2.2.2.2.2.2.2.1), (56, o.2.2.2.2.2.2.2.2.2.2.2.2.2.2.2.1), (57, o.2.2.2.2.2.2.1), (58, o.2.2.2.2.2.2.2.1), (59, o.2.2.2.2.2.2.2.2.1), (60, o.2.2.2.2.2.2.2.2.2.1), (61, o.2.2.2.2.2.2.2.2.2.2.1), (62, o.2.2.2.2.2.2.2.2.2.2.2.1), (63, o.2.2.2.2.2.2.2.2.2.2.2.2.1)]) (up cf [(43, o.2.1), (44, o.2.2.1), (45, o.2.2.2.1), (46, o.2.2.2.2.1), (47, o.2.2.2.2.2.1), (48, o.2.2.2.2.2.2.2.2.2.2.2.2.2.1)]) (up mi [(0, q.2.1), (1, q.2.2.1), (2, q.2.2.2.1), (13, q.2.2.2.2.2.2.2.2.2.1), (23, q.2.2.2.2.2.2.2.2.2.2)]) (up mf [(2, q.2.2.2.2.1), (5, q.2.2.2.2.2.1), (6, q.2.2.2.2.2.2.1), (7, q.2.2.2.2.2.2.2.1), (8, q.2.2.2.2.2.2.2.2.1)]) ri rf kl kb kf ks kw mlM mbM mfM msM mwM := by
  obtain ⟨R, l, hC, hR, D, D2, hN, hM, hK⟩ := hr
  obtain ⟨d64, d65, d66, d67, d68, d69, d70, d71, dk, dw, db, hm, da, du, hb, hs, hbw, hbd⟩ := id D
  obtain ⟨r0, r1, r2, r3, r4, r5, r6, r7, ek, ew, eb, hm2, ea, eu, hb2, hs2, hbw2, hbd2⟩ := id D2
  have T : tR R (cf 49) (cf 50) (cf 51) (cf 53) (cf 54) := ⟨dk, dw, db, da, du⟩
  have T2 : tR R (rf 0) (rf 1) (rf 2) (rf 4) (rf 5) := ⟨ek, ew, eb, ea, eu⟩
  obtain ⟨⟨L, U, f, sd, V⟩, ⟨a18, a19, a20, a21, hwr⟩, hv, ⟨hL, hU, hdj, hsd, hVc⟩, hf9⟩ := id hN
  replace a18 : ci 18 = nI L := a18
  replace a19 : ci 19 = nI U := a19
  replace a20 : ci 20 = nI f := a20
  replace a21 : ci 21 = nI sd := a21
  replace hwr : rw_ (R 0 1) (cf 13) V := hwr
  replace hv : vR (R 0 1) (mf 1) L U f sd V := hv
  replace hL : L < 2 ^ R 0 1 := hL
  replace hU : U < 2 ^ R 0 1 := hU
  replace hdj : dj L U := hdj
  replace hsd : sd ≤ 65536 := hsd
  replace hVc : ∀ j, j < R 0 1 → V j ≤ cap := hVc
  replace hf9 : f ≤ 999 := hf9
  have hV : ∀ j, j < R 0 1 → V j < 2 ^ 20 := fun j hj => Nat.lt_of_le_of_lt (hVc j hj) (Nat.lt_trans hcap (by decide))
  have hf : f < 2 ^ 16 := Nat.lt_of_le_of_lt hf9 (by decide)
  have hq : qOK R cap (L, U, sd, V) := ⟨hL, hU, hdj, hsd, hVc⟩
  rw [a18, a19, a20, a21, d64, d66, d67, r0, r2, r3]
  obtain ⟨o, q, e1, e2, h1, h2, h3, h5, h6⟩ := j_century hR hcap hq T T2 hv hb hb2 hwr x1 x2 (cf 43) (cf 44) (cf 45) (cf 46) (cf 47) (ci 57) (ci 58) (ci 59) (ci 60) (ci 61) (ci 62) (ci 63) (cf 48) (ci 55) (ci 56) (ci 0) (mi 0) (mi 1) (mi 2) (mf 2) (mf 5) (mf 6) (mf 7) (mf 8) (mi 13) (mi 23)
  exact ⟨o, q, e1, e2, h1.symm, R, l, ⟨hC.1, hC.2.1, h3, wh_n h6 h5, hC.2.2.2.2⟩, hR, D, D2, nowE_up (Nat.le_succ _) hN, memE_up (Nat.le_succ _) hM, mrkE_up (Nat.le_succ _) hK⟩
set_option maxHeartbeats 2000000 in
theorem pU_40 {ci : Nat → Int32} {cf : Nat → Nat → Int32} {mi : Nat → Int32} {mf : Nat → Nat → Int32} (hr : rlU ci cf mi mf) (x1 x2 : Int32) : ∃ o q, f_X10_century x1 x2 (ci 18) (ci 19) (ci 20) (ci 21) (cf 13) (cf 43) (cf 44) (cf 45) (cf 46) (cf 47) (ci 57) (ci 58) (ci 59) (ci 60) (ci 61) (ci 62) (ci 63) (cf 48) (ci 55) (ci 56) (ci 64) (ci 66) (ci 67) (cf 49) (cf 50) (cf 51) (cf 53) (cf 54) (cf 55) (ci 0) = some o ∧ f_X12_centuryN x1 x2 (mi 0) (mi 1) (mi 2) (mf 1) (mf 2) (mi 23) = some q ∧ o.1 = q.1 ∧ rlU (up ci [(0, o.2.2.2.2.2.2.2.2.2.2.2.2.2.2.2.2), (55, o.2.2.2.2.2.2.2.2.2.2.2.2.2.2.1), (56, o.2.2.2.2.2.2.2.2.2.2.2.2.2.2.2.1), (57, o.2.2.2.2.2.2.1), (58, o.2.2.2.2.2.2.2.1), (59, o.2.2.2.2.2.2.2.2.1), (60, o.2.2.2.2.2.2.2.2.2.1), (61, o.2.2.2.2.2.2.2.2.2.2.1), (62, o.2.2.2.2.2.2.2.2.2.2.2.1), (63, o.2.2.2.2.2.2.2.2.2.2.2.2.1)]) (up cf [(43, o.2.1), (44, o.2.2.1), (45, o.2.2.2.1), (46, o.2.2.2.2.1), (47, o.2.2.2.2.2.1), (48, o.2.2.2.2.2.2.2.2.2.2.2.2.2.1)]) (up mi [(0, q.2.1), (1, q.2.2.1), (2, q.2.2.2.1), (23, q.2.2.2.2.2)]) (up mf [(2, q.2.2.2.2.1)]) := by
  obtain ⟨hC, u20, u21, u23, u24, u64, u65, u66, u67, u68, u69, u70⟩ := hr
  rw [u66, u67]
  obtain ⟨o, e1, h1, h2⟩ := n_century x1 x2 (ci 18) (ci 19) (ci 20) (ci 21) (cf 13) (cf 43) (cf 44) (cf 45) (cf 46) (cf 47) (ci 57) (ci 58) (ci 59) (ci 60) (ci 61) (ci 62) (ci 63) (cf 48) (ci 55) (ci 56) (ci 64) (cf 49) (cf 50) (cf 51) (cf 53) (cf 54) (cf 55) (ci 0)
  exact ⟨o, _, e1, q_century _ _ _ _ _ _ _ _ , h1, ⟨hC.1, hC.2.1, h2.symm, wh_n (ne4_1 h2) rfl, hC.2.2.2.2⟩, u20, u21, u23, u24, u64, u65, u66, u67, u68, u69, u70⟩
set_option maxHeartbeats 2000000 in
theorem pT_41 {cap : Nat} (hcap : cap < 2 ^ 15) {ci : Nat → Int32} {cf : Nat → Nat → Int32} {mi : Nat → Int32} {mf : Nat → Nat → Int32} {ri : Nat → Int32} {rf : Nat → Nat → Int32} {kl kb kf ks : Nat → Int32} {kw : Nat → Nat → Int32} {mlM mbM mfM msM : Nat → Int32} {mwM : Nat → Nat → Int32} (hr : rlT cap ci cf mi mf ri rf kl kb kf ks kw mlM mbM mfM msM mwM) (x1 x2 : Int32) : ∃ o q, f_X10_burstBy x1 x2 (ci 18) (ci 19) (ci 20) (ci 21) (cf 13) (cf 43) (cf 44) (cf 45) (cf 46) (cf 47) (ci 57) (ci 58) (ci 59) (ci 60) (ci 61) (ci 62) (ci 63) (cf 48) (ci 55) (ci 56) (ci 64) (ci 66) (ci 67) (cf 49) (cf 50) (cf 51) (cf 53) (cf 54) (cf 55) (ci 0) = some o ∧ f_X12_burstBy x1 x2 (mi 0) (mi 1) (mi 2) (ri 0) (ri 2) (ri 3) (rf 0) (rf 1) (rf 2) (rf 4) (rf 5) (rf 6) (mf 1) (mf 2) (mf 5) (mf 6) (mf 7) (mf 8) (mi 13) (mi 23) = some q ∧ o.1 = q.1 ∧ rlT (cap + 1) (up ci [(0, o.2.2.2.2.2.2.2.2.2.2.2.2.2.2.2.2), (55, o.2.2.2.2.2.2.2.2.2.2.2.2.2.2.1), (56, o.2.2.2.2.2.2.2.2.2.2.2.2.2.2.2.1), (57, o.2.2.2.2.2.2.1), (58, o.2.2.2.2.2.2.2.1), (59, o.2.2.2.2.2.2.2.2.1), (60, o.2.2.2.2.2.2.2.2.2.1), (61, o.2.2.2.2.2.2.2.2.2.2.1), (62, o.2.2.2.2.2.2.2.2.2.2.2.1), (63, o.2.2.2.2.2.2.2.2.2.2.2.2.1)]) (up cf [(43, o.2.1), (44, o.2.2.1), (45, o.2.2.2.1), (46, o.2.2.2.2.1), (47, o.2.2.2.2.2.1), (48, o.2.2.2.2.2.2.2.2.2.2.2.2.2.1)]) (up mi [(0, q.2.1), (1, q.2.2.1), (2, q.2.2.2.1), (13, q.2.2.2.2.2.2.2.2.2.1), (23, q.2.2.2.2.2.2.2.2.2.2)]) (up mf [(2, q.2.2.2.2.1), (5, q.2.2.2.2.2.1), (6, q.2.2.2.2.2.2.1), (7, q.2.2.2.2.2.2.2.1), (8, q.2.2.2.2.2.2.2.2.1)]) ri rf kl kb kf ks kw mlM mbM mfM msM mwM := by
  obtain ⟨R, l, hC, hR, D, D2, hN, hM, hK⟩ := hr
  obtain ⟨d64, d65, d66, d67, d68, d69, d70, d71, dk, dw, db, hm, da, du, hb, hs, hbw, hbd⟩ := id D
  obtain ⟨r0, r1, r2, r3, r4, r5, r6, r7, ek, ew, eb, hm2, ea, eu, hb2, hs2, hbw2, hbd2⟩ := id D2
  have T : tR R (cf 49) (cf 50) (cf 51) (cf 53) (cf 54) := ⟨dk, dw, db, da, du⟩
  have T2 : tR R (rf 0) (rf 1) (rf 2) (rf 4) (rf 5) := ⟨ek, ew, eb, ea, eu⟩
  obtain ⟨⟨L, U, f, sd, V⟩, ⟨a18, a19, a20, a21, hwr⟩, hv, ⟨hL, hU, hdj, hsd, hVc⟩, hf9⟩ := id hN
  replace a18 : ci 18 = nI L := a18
  replace a19 : ci 19 = nI U := a19
  replace a20 : ci 20 = nI f := a20
  replace a21 : ci 21 = nI sd := a21
  replace hwr : rw_ (R 0 1) (cf 13) V := hwr
  replace hv : vR (R 0 1) (mf 1) L U f sd V := hv
  replace hL : L < 2 ^ R 0 1 := hL
  replace hU : U < 2 ^ R 0 1 := hU
  replace hdj : dj L U := hdj
  replace hsd : sd ≤ 65536 := hsd
  replace hVc : ∀ j, j < R 0 1 → V j ≤ cap := hVc
  replace hf9 : f ≤ 999 := hf9
  have hV : ∀ j, j < R 0 1 → V j < 2 ^ 20 := fun j hj => Nat.lt_of_le_of_lt (hVc j hj) (Nat.lt_trans hcap (by decide))
  have hf : f < 2 ^ 16 := Nat.lt_of_le_of_lt hf9 (by decide)
  have hq : qOK R cap (L, U, sd, V) := ⟨hL, hU, hdj, hsd, hVc⟩
  rw [a18, a19, a20, a21, d64, d66, d67, r0, r2, r3]
  obtain ⟨o, q, e1, e2, h1, h2, h3, h5, h6⟩ := j_burstBy hR hcap hq T T2 hv hb hb2 hwr x1 x2 (cf 43) (cf 44) (cf 45) (cf 46) (cf 47) (ci 57) (ci 58) (ci 59) (ci 60) (ci 61) (ci 62) (ci 63) (cf 48) (ci 55) (ci 56) (ci 0) (mi 0) (mi 1) (mi 2) (mf 2) (mf 5) (mf 6) (mf 7) (mf 8) (mi 13) (mi 23)
  exact ⟨o, q, e1, e2, h1.symm, R, l, ⟨hC.1, hC.2.1, h3, wh_n h6 h5, hC.2.2.2.2⟩, hR, D, D2, nowE_up (Nat.le_succ _) hN, memE_up (Nat.le_succ _) hM, mrkE_up (Nat.le_succ _) hK⟩
set_option maxHeartbeats 2000000 in
theorem pU_41 {ci : Nat → Int32} {cf : Nat → Nat → Int32} {mi : Nat → Int32} {mf : Nat → Nat → Int32} (hr : rlU ci cf mi mf) (x1 x2 : Int32) : ∃ o q, f_X10_burstBy x1 x2 (ci 18) (ci 19) (ci 20) (ci 21) (cf 13) (cf 43) (cf 44) (cf 45) (cf 46) (cf 47) (ci 57) (ci 58) (ci 59) (ci 60) (ci 61) (ci 62) (ci 63) (cf 48) (ci 55) (ci 56) (ci 64) (ci 66) (ci 67) (cf 49) (cf 50) (cf 51) (cf 53) (cf 54) (cf 55) (ci 0) = some o ∧ f_X12_burstByN x1 x2 (mi 0) (mi 1) (mi 2) (mf 1) (mf 2) (mi 23) = some q ∧ o.1 = q.1 ∧ rlU (up ci [(0, o.2.2.2.2.2.2.2.2.2.2.2.2.2.2.2.2), (55, o.2.2.2.2.2.2.2.2.2.2.2.2.2.2.1), (56, o.2.2.2.2.2.2.2.2.2.2.2.2.2.2.2.1), (57, o.2.2.2.2.2.2.1), (58, o.2.2.2.2.2.2.2.1), (59, o.2.2.2.2.2.2.2.2.1), (60, o.2.2.2.2.2.2.2.2.2.1), (61, o.2.2.2.2.2.2.2.2.2.2.1), (62, o.2.2.2.2.2.2.2.2.2.2.2.1), (63, o.2.2.2.2.2.2.2.2.2.2.2.2.1)]) (up cf [(43, o.2.1), (44, o.2.2.1), (45, o.2.2.2.1), (46, o.2.2.2.2.1), (47, o.2.2.2.2.2.1), (48, o.2.2.2.2.2.2.2.2.2.2.2.2.2.1)]) (up mi [(0, q.2.1), (1, q.2.2.1), (2, q.2.2.2.1), (23, q.2.2.2.2.2)]) (up mf [(2, q.2.2.2.2.1)]) := by
  obtain ⟨hC, u20, u21, u23, u24, u64, u65, u66, u67, u68, u69, u70⟩ := hr
  rw [u66, u67]
  obtain ⟨o, e1, h1, h2⟩ := n_burstBy x1 x2 (ci 18) (ci 19) (ci 20) (ci 21) (cf 13) (cf 43) (cf 44) (cf 45) (cf 46) (cf 47) (ci 57) (ci 58) (ci 59) (ci 60) (ci 61) (ci 62) (ci 63) (cf 48) (ci 55) (ci 56) (ci 64) (cf 49) (cf 50) (cf 51) (cf 53) (cf 54) (cf 55) (ci 0)
  exact ⟨o, _, e1, q_burstBy _ _ _ _ _ _ _ _ , h1, ⟨hC.1, hC.2.1, h2.symm, wh_n (ne4_1 h2) rfl, hC.2.2.2.2⟩, u20, u21, u23, u24, u64, u65, u66, u67, u68, u69, u70⟩
set_option maxHeartbeats 2000000 in
theorem pT_42 {cap : Nat} (hcap : cap < 2 ^ 15) {ci : Nat → Int32} {cf : Nat → Nat → Int32} {mi : Nat → Int32} {mf : Nat → Nat → Int32} {ri : Nat → Int32} {rf : Nat → Nat → Int32} {kl kb kf ks : Nat → Int32} {kw : Nat → Nat → Int32} {mlM mbM mfM msM : Nat → Int32} {mwM : Nat → Nat → Int32} (hr : rlT cap ci cf mi mf ri rf kl kb kf ks kw mlM mbM mfM msM mwM) (x1 x2 : Int32) : ∃ o q, f_X10_yearOf x1 x2 (ci 18) (ci 19) (ci 20) (ci 21) (cf 13) (cf 43) (cf 44) (cf 45) (cf 46) (cf 47) (ci 57) (ci 58) (ci 59) (ci 60) (ci 61) (ci 62) (ci 63) (cf 48) (ci 64) (ci 66) (ci 67) (cf 49) (cf 50) (cf 51) (cf 53) (cf 54) (cf 55) (ci 0) = some o ∧ f_X12_yearOf x1 x2 (mi 0) (mi 1) (mi 2) (ri 0) (ri 2) (ri 3) (rf 0) (rf 1) (rf 2) (rf 4) (rf 5) (rf 6) (mf 1) (mf 2) (mf 5) (mf 6) (mf 7) (mf 8) (mi 13) = some q ∧ o.1 = q.1 ∧ rlT (cap + 1) (up ci [(0, o.2.2.2.2.2.2.2.2.2.2.2.2.2.2), (57, o.2.2.2.2.2.2.1), (58, o.2.2.2.2.2.2.2.1), (59, o.2.2.2.2.2.2.2.2.1), (60, o.2.2.2.2.2.2.2.2.2.1), (61, o.2.2.2.2.2.2.2.2.2.2.1), (62, o.2.2.2.2.2.2.2.2.2.2.2.1), (63, o.2.2.2.2.2.2.2.2.2.2.2.2.1)]) (up cf [(43, o.2.1), (44, o.2.2.1), (45, o.2.2.2.1), (46, o.2.2.2.2.1), (47, o.2.2.2.2.2.1), (48, o.2.2.2.2.2.2.2.2.2.2.2.2.2.1)]) (up mi [(0, q.2.1), (1, q.2.2.1), (2, q.2.2.2.1), (13, q.2.2.2.2.2.2.2.2.2)]) (up mf [(2, q.2.2.2.2.1), (5, q.2.2.2.2.2.1), (6, q.2.2.2.2.2.2.1), (7, q.2.2.2.2.2.2.2.1), (8, q.2.2.2.2.2.2.2.2.1)]) ri rf kl kb kf ks kw mlM mbM mfM msM mwM := by
  obtain ⟨R, l, hC, hR, D, D2, hN, hM, hK⟩ := hr
  obtain ⟨d64, d65, d66, d67, d68, d69, d70, d71, dk, dw, db, hm, da, du, hb, hs, hbw, hbd⟩ := id D
  obtain ⟨r0, r1, r2, r3, r4, r5, r6, r7, ek, ew, eb, hm2, ea, eu, hb2, hs2, hbw2, hbd2⟩ := id D2
  have T : tR R (cf 49) (cf 50) (cf 51) (cf 53) (cf 54) := ⟨dk, dw, db, da, du⟩
  have T2 : tR R (rf 0) (rf 1) (rf 2) (rf 4) (rf 5) := ⟨ek, ew, eb, ea, eu⟩
  obtain ⟨⟨L, U, f, sd, V⟩, ⟨a18, a19, a20, a21, hwr⟩, hv, ⟨hL, hU, hdj, hsd, hVc⟩, hf9⟩ := id hN
  replace a18 : ci 18 = nI L := a18
  replace a19 : ci 19 = nI U := a19
  replace a20 : ci 20 = nI f := a20
  replace a21 : ci 21 = nI sd := a21
  replace hwr : rw_ (R 0 1) (cf 13) V := hwr
  replace hv : vR (R 0 1) (mf 1) L U f sd V := hv
  replace hL : L < 2 ^ R 0 1 := hL
  replace hU : U < 2 ^ R 0 1 := hU
  replace hdj : dj L U := hdj
  replace hsd : sd ≤ 65536 := hsd
  replace hVc : ∀ j, j < R 0 1 → V j ≤ cap := hVc
  replace hf9 : f ≤ 999 := hf9
  have hV : ∀ j, j < R 0 1 → V j < 2 ^ 20 := fun j hj => Nat.lt_of_le_of_lt (hVc j hj) (Nat.lt_trans hcap (by decide))
  have hf : f < 2 ^ 16 := Nat.lt_of_le_of_lt hf9 (by decide)
  have hq : qOK R cap (L, U, sd, V) := ⟨hL, hU, hdj, hsd, hVc⟩
  rw [a18, a19, a20, a21, d64, d66, d67, r0, r2, r3]
  obtain ⟨o, q, e1, e2, h1, h2, h3, h5, h6⟩ := j_yearOf hR hcap hq T T2 hv hb hb2 hwr x1 x2 (cf 43) (cf 44) (cf 45) (cf 46) (cf 47) (ci 57) (ci 58) (ci 59) (ci 60) (ci 61) (ci 62) (ci 63) (cf 48) (ci 0) (mi 0) (mi 1) (mi 2) (mf 2) (mf 5) (mf 6) (mf 7) (mf 8) (mi 13)
  exact ⟨o, q, e1, e2, h1.symm, R, l, ⟨hC.1, hC.2.1, h3, wh_n h6 h5, hC.2.2.2.2⟩, hR, D, D2, nowE_up (Nat.le_succ _) hN, memE_up (Nat.le_succ _) hM, mrkE_up (Nat.le_succ _) hK⟩
set_option maxHeartbeats 2000000 in
theorem pU_42 {ci : Nat → Int32} {cf : Nat → Nat → Int32} {mi : Nat → Int32} {mf : Nat → Nat → Int32} (hr : rlU ci cf mi mf) (x1 x2 : Int32) : ∃ o q, f_X10_yearOf x1 x2 (ci 18) (ci 19) (ci 20) (ci 21) (cf 13) (cf 43) (cf 44) (cf 45) (cf 46) (cf 47) (ci 57) (ci 58) (ci 59) (ci 60) (ci 61) (ci 62) (ci 63) (cf 48) (ci 64) (ci 66) (ci 67) (cf 49) (cf 50) (cf 51) (cf 53) (cf 54) (cf 55) (ci 0) = some o ∧ f_X12_yearOfN x1 x2 (mi 0) (mi 1) (mi 2) (mf 1) (mf 2) = some q ∧ o.1 = q.1 ∧ rlU (up ci [(0, o.2.2.2.2.2.2.2.2.2.2.2.2.2.2), (57, o.2.2.2.2.2.2.1), (58, o.2.2.2.2.2.2.2.1), (59, o.2.2.2.2.2.2.2.2.1), (60, o.2.2.2.2.2.2.2.2.2.1), (61, o.2.2.2.2.2.2.2.2.2.2.1), (62, o.2.2.2.2.2.2.2.2.2.2.2.1), (63, o.2.2.2.2.2.2.2.2.2.2.2.2.1)]) (up cf [(43, o.2.1), (44, o.2.2.1), (45, o.2.2.2.1), (46, o.2.2.2.2.1), (47, o.2.2.2.2.2.1), (48, o.2.2.2.2.2.2.2.2.2.2.2.2.2.1)]) (up mi [(0, q.2.1), (1, q.2.2.1), (2, q.2.2.2.1)]) (up mf [(2, q.2.2.2.2)]) := by
  obtain ⟨hC, u20, u21, u23, u24, u64, u65, u66, u67, u68, u69, u70⟩ := hr
  rw [u66, u67]
  obtain ⟨o, e1, h1, h2⟩ := n_yearOf x1 x2 (ci 18) (ci 19) (ci 20) (ci 21) (cf 13) (cf 43) (cf 44) (cf 45) (cf 46) (cf 47) (ci 57) (ci 58) (ci 59) (ci 60) (ci 61) (ci 62) (ci 63) (cf 48) (ci 64) (cf 49) (cf 50) (cf 51) (cf 53) (cf 54) (cf 55) (ci 0)
  exact ⟨o, _, e1, q_yearOf _ _ _ _ _ _ _ , h1, ⟨hC.1, hC.2.1, h2.symm, wh_n (ne4_1 h2) rfl, hC.2.2.2.2⟩, u20, u21, u23, u24, u64, u65, u66, u67, u68, u69, u70⟩
