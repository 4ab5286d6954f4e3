/-! one call, both sides: what holds again -/
set_option maxHeartbeats 2000000 in
theorem pT_15 {cap : Nat} (hcap : cap < 2 ^ 15) {ci : Nat → Int32} {cf : Nat → Nat → Int32} {mi : Nat → Int32} {mf : Nat → Nat → Int32} {ri : Nat → Int32} {rf : Nat → Nat → Int32} {kl kb kf ks : Nat → Int32} {kw : Nat → Nat → Int32} {mlM mbM mfM msM : Nat → Int32} {mwM : Nat → Nat → Int32} (hr : rlT cap ci cf mi mf ri rf kl kb kf ks kw mlM mbM mfM msM mwM) (x1 : Int32) : ∃ o q, f_X10_bursts x1 (ci 18) (cf 13) (cf 14) (cf 15) (cf 16) (cf 17) (cf 18) (ci 25) (ci 26) (ci 27) (ci 66) (ci 67) (cf 49) (cf 50) (cf 51) (cf 53) (cf 54) (cf 55) (ci 0) = some o ∧ f_X12_bursts x1 (mi 0) (mi 1) (mi 2) (ri 2) (ri 3) (rf 0) (rf 1) (rf 2) (rf 4) (rf 5) (rf 6) (mf 1) (mf 5) (mf 6) (mf 7) (mf 8) (mi 13) = some q ∧ o.1 = q.1 ∧ rlT (cap + 1) (up ci [(0, o.2.2.2.2.2.2.2.2.2), (25, o.2.2.2.2.2.2.1), (26, o.2.2.2.2.2.2.2.1), (27, o.2.2.2.2.2.2.2.2.1)]) (up cf [(14, o.2.1), (15, o.2.2.1), (16, o.2.2.2.1), (17, o.2.2.2.2.1), (18, o.2.2.2.2.2.1)]) (up mi [(0, q.2.1), (1, q.2.2.1), (2, q.2.2.2.1), (13, q.2.2.2.2.2.2.2.2)]) (up mf [(5, q.2.2.2.2.1), (6, q.2.2.2.2.2.1), (7, q.2.2.2.2.2.2.1), (8, q.2.2.2.2.2.2.2.1)]) ri rf kl kb kf ks kw mlM mbM mfM msM mwM := by
  obtain ⟨R, l, hC, hR, D, D2, hN, hM, hK⟩ := hr
  obtain ⟨d64, d65, d66, d67, d68, d69, d70, d71, dk, dw, db, hm, da, du, hb, hs, hbw, hbd⟩ := id D
  obtain ⟨r0, r1, r2, r3, r4, r5, r6, r7, ek, ew, eb, hm2, ea, eu, hb2, hs2, hbw2, hbd2⟩ := id D2
  have T : tR R (cf 49) (cf 50) (cf 51) (cf 53) (cf 54) := ⟨dk, dw, db, da, du⟩
  have T2 : tR R (rf 0) (rf 1) (rf 2) (rf 4) (rf 5) := ⟨ek, ew, eb, ea, eu⟩
  obtain ⟨⟨L, U, f, sd, V⟩, ⟨a18, a19, a20, a21, hwr⟩, hv, ⟨hL, hU, hdj, hsd, hVc⟩, hf9⟩ := id hN
  replace a18 : ci 18 = nI L := a18
  replace a19 : ci 19 = nI U := a19
  replace a20 : ci 20 = nI f := a20
  replace a21 : ci 21 = nI sd := a21
  replace hwr : rw_ (R 0 1) (cf 13) V := hwr
  replace hv : vR (R 0 1) (mf 1) L U f sd V := hv
  replace hL : L < 2 ^ R 0 1 := hL
  replace hU : U < 2 ^ R 0 1 := hU
  replace hdj : dj L U := hdj
  replace hsd : sd ≤ 65536 := hsd
  replace hVc : ∀ j, j < R 0 1 → V j ≤ cap := hVc
  replace hf9 : f ≤ 999 := hf9
  have hV : ∀ j, j < R 0 1 → V j < 2 ^ 20 := fun j hj => Nat.lt_of_le_of_lt (hVc j hj) (Nat.lt_trans hcap (by decide))
  have hf : f < 2 ^ 16 := Nat.lt_of_le_of_lt hf9 (by decide)
  have hq : qOK R cap (L, U, sd, V) := ⟨hL, hU, hdj, hsd, hVc⟩
  rw [a18, d66, d67, r2, r3]
  obtain ⟨ans, t, ⟨w, co, de, sp, ha, be, al, si, e1⟩, wi, wa, de2, sp2, be2, e2⟩ := j_bursts hR hL T T2 hv hb hb2 hwr hV x1 (cf 14) (cf 15) (cf 16) (cf 17) (cf 18) (ci 25) (ci 26) (ci 27) (ci 0) (mi 0) (mi 1) (mi 2) (mf 5) (mf 6) (mf 7) (mf 8) (mi 13)
  have h4 : ¬ t = 4 := nt_bursts _ _ _ _ _ _ _ _ _ _ _ _ _ _ _ _ _ _ _ _  _ e1
  exact ⟨_, _, e1, e2, rfl, R, l, ⟨hC.1, hC.2.1, rfl, wh_n h4 rfl, hC.2.2.2.2⟩, hR, D, D2, nowE_up (Nat.le_succ _) hN, memE_up (Nat.le_succ _) hM, mrkE_up (Nat.le_succ _) hK⟩
set_option maxHeartbeats 2000000 in
theorem pU_15 {ci : Nat → Int32} {cf : Nat → Nat → Int32} {mi : Nat → Int32} {mf : Nat → Nat → Int32} (hr : rlU ci cf mi mf) (x1 : Int32) : ∃ o q, f_X10_bursts x1 (ci 18) (cf 13) (cf 14) (cf 15) (cf 16) (cf 17) (cf 18) (ci 25) (ci 26) (ci 27) (ci 66) (ci 67) (cf 49) (cf 50) (cf 51) (cf 53) (cf 54) (cf 55) (ci 0) = some o ∧ f_X12_burstsN x1 (mi 0) (mi 1) (mi 2) = some q ∧ o.1 = q.1 ∧ rlU (up ci [(0, o.2.2.2.2.2.2.2.2.2), (25, o.2.2.2.2.2.2.1), (26, o.2.2.2.2.2.2.2.1), (27, o.2.2.2.2.2.2.2.2.1)]) (up cf [(14, o.2.1), (15, o.2.2.1), (16, o.2.2.2.1), (17, o.2.2.2.2.1), (18, o.2.2.2.2.2.1)]) (up mi [(0, q.2.1), (1, q.2.2.1), (2, q.2.2.2)]) mf := by
  obtain ⟨hC, u20, u21, u23, u24, u64, u65, u66, u67, u68, u69, u70⟩ := hr
  rw [u66, u67]
  obtain ⟨o, e1, h1, h2⟩ := n_bursts x1 (ci 18) (cf 13) (cf 14) (cf 15) (cf 16) (cf 17) (cf 18) (ci 25) (ci 26) (ci 27) (cf 49) (cf 50) (cf 51) (cf 53) (cf 54) (cf 55) (ci 0)
  exact ⟨o, _, e1, q_bursts _ _ _ _ , h1, ⟨hC.1, hC.2.1, h2.symm, wh_n (ne4_1 h2) rfl, hC.2.2.2.2⟩, u20, u21, u23, u24, u64, u65, u66, u67, u68, u69, u70⟩
set_option maxHeartbeats 2000000 in
theorem pT_16 {cap : Nat} (hcap : cap < 2 ^ 15) {ci : Nat → Int32} {cf : Nat → Nat → Int32} {mi : Nat → Int32} {mf : Nat → Nat → Int32} {ri : Nat → Int32} {rf : Nat → Nat → Int32} {kl kb kf ks : Nat → Int32} {kw : Nat → Nat → Int32} {mlM mbM mfM msM : Nat → Int32} {mwM : Nat → Nat → Int32} (hr : rlT cap ci cf mi mf ri rf kl kb kf ks kw mlM mbM mfM msM mwM) (x1 : Int32) : ∃ o q, f_X10_burstsAt x1 (ci 18) (cf 13) (cf 14) (cf 15) (cf 16) (cf 17) (cf 18) (ci 25) (ci 26) (ci 27) (ci 66) (ci 67) (cf 49) (cf 50) (cf 51) (cf 53) (cf 54) (cf 55) (ci 0) = some o ∧ f_X12_burstsAt x1 (mi 0) (mi 1) (mi 2) (ri 2) (ri 3) (rf 0) (rf 1) (rf 2) (rf 4) (rf 5) (rf 6) (mf 1) (mf 5) (mf 6) (mf 7) (mf 8) (mi 13) = some q ∧ o.1 = q.1 ∧ rlT (cap + 1) (up ci [(0, o.2.2.2.2.2.2.2.2.2), (25, o.2.2.2.2.2.2.1), (26, o.2.2.2.2.2.2.2.1), (27, o.2.2.2.2.2.2.2.2.1)]) (up cf [(14, o.2.1), (15, o.2.2.1), (16, o.2.2.2.1), (17, o.2.2.2.2.1), (18, o.2.2.2.2.2.1)]) (up mi [(0, q.2.1), (1, q.2.2.1), (2, q.2.2.2.1), (13, q.2.2.2.2.2.2.2.2)]) (up mf [(5, q.2.2.2.2.1), (6, q.2.2.2.2.2.1), (7, q.2.2.2.2.2.2.1), (8, q.2.2.2.2.2.2.2.1)]) ri rf kl kb kf ks kw mlM mbM mfM msM mwM := by
  obtain ⟨R, l, hC, hR, D, D2, hN, hM, hK⟩ := hr
  obtain ⟨d64, d65, d66, d67, d68, d69, d70, d71, dk, dw, db, hm, da, du, hb, hs, hbw, hbd⟩ := id D
  obtain ⟨r0, r1, r2, r3, r4, r5, r6, r7, ek, ew, eb, hm2, ea, eu, hb2, hs2, hbw2, hbd2⟩ := id D2
  have T : tR R (cf 49) (cf 50) (cf 51) (cf 53) (cf 54) := ⟨dk, dw, db, da, du⟩
  have T2 : tR R (rf 0) (rf 1) (rf 2) (rf 4) (rf 5) := ⟨ek, ew, eb, ea, eu⟩
  obtain ⟨⟨L, U, f, sd, V⟩, ⟨a18, a19, a20, a21, hwr⟩, hv, ⟨hL, hU, hdj, hsd, hVc⟩, hf9⟩ := id hN
  replace a18 : ci 18 = nI L := a18
  replace a19 : ci 19 = nI U := a19
  replace a20 : ci 20 = nI f := a20
  replace a21 : ci 21 = nI sd := a21
  replace hwr : rw_ (R 0 1) (cf 13) V := hwr
  replace hv : vR (R 0 1) (mf 1) L U f sd V := hv
  replace hL : L < 2 ^ R 0 1 := hL
  replace hU : U < 2 ^ R 0 1 := hU
  replace hdj : dj L U := hdj
  replace hsd : sd ≤ 65536 := hsd
  replace hVc : ∀ j, j < R 0 1 → V j ≤ cap := hVc
  replace hf9 : f ≤ 999 := hf9
  have hV : ∀ j, j < R 0 1 → V j < 2 ^ 20 := fun j hj => Nat.lt_of_le_of_lt (hVc j hj) (Nat.lt_trans hcap (by decide))
  have hf : f < 2 ^ 16 := Nat.lt_of_le_of_lt hf9 (by decide)
  have hq : qOK R cap (L, U, sd, V) := ⟨hL, hU, hdj, hsd, hVc⟩
  rw [a18, d66, d67, r2, r3]
  obtain ⟨ans, t, ⟨w, co, de, sp, ha, be, al, si, e1⟩, wi, wa, de2, sp2, be2, e2⟩ := j_burstsAt hR hL T T2 hv hb hb2 hwr hV x1 (cf 14) (cf 15) (cf 16) (cf 17) (cf 18) (ci 25) (ci 26) (ci 27) (ci 0) (mi 0) (mi 1) (mi 2) (mf 5) (mf 6) (mf 7) (mf 8) (mi 13)
  have h4 : ¬ t = 4 := nt_burstsAt _ _ _ _ _ _ _ _ _ _ _ _ _ _ _ _ _ _ _ _  _ e1
  exact ⟨_, _, e1, e2, rfl, R, l, ⟨hC.1, hC.2.1, rfl, wh_n h4 rfl, hC.2.2.2.2⟩, hR, D, D2, nowE_up (Nat.le_succ _) hN, memE_up (Nat.le_succ _) hM, mrkE_up (Nat.le_succ _) hK⟩
set_option maxHeartbeats 2000000 in
theorem pU_16 {ci : Nat → Int32} {cf : Nat → Nat → Int32} {mi : Nat → Int32} {mf : Nat → Nat → Int32} (hr : rlU ci cf mi mf) (x1 : Int32) : ∃ o q, f_X10_burstsAt x1 (ci 18) (cf 13) (cf 14) (cf 15) (cf 16) (cf 17) (cf 18) (ci 25) (ci 26) (ci 27) (ci 66) (ci 67) (cf 49) (cf 50) (cf 51) (cf 53) (cf 54) (cf 55) (ci 0) = some o ∧ f_X12_burstsAtN x1 (mi 0) (mi 1) (mi 2) (mf 1) = some q ∧ o.1 = q.1 ∧ rlU (up ci [(0, o.2.2.2.2.2.2.2.2.2), (25, o.2.2.2.2.2.2.1), (26, o.2.2.2.2.2.2.2.1), (27, o.2.2.2.2.2.2.2.2.1)]) (up cf [(14, o.2.1), (15, o.2.2.1), (16, o.2.2.2.1), (17, o.2.2.2.2.1), (18, o.2.2.2.2.2.1)]) (up mi [(0, q.2.1), (1, q.2.2.1), (2, q.2.2.2)]) mf := by
  obtain ⟨hC, u20, u21, u23, u24, u64, u65, u66, u67, u68, u69, u70⟩ := hr
  rw [u66, u67]
  obtain ⟨o, e1, h1, h2⟩ := n_burstsAt x1 (ci 18) (cf 13) (cf 14) (cf 15) (cf 16) (cf 17) (cf 18) (ci 25) (ci 26) (ci 27) (cf 49) (cf 50) (cf 51) (cf 53) (cf 54) (cf 55) (ci 0)
  exact ⟨o, _, e1, q_burstsAt _ _ _ _ _ , h1, ⟨hC.1, hC.2.1, h2.symm, wh_n (ne4_1 h2) rfl, hC.2.2.2.2⟩, u20, u21, u23, u24, u64, u65, u66, u67, u68, u69, u70⟩
set_option maxHeartbeats 2000000 in
theorem pT_17 {cap : Nat} (hcap : cap < 2 ^ 15) {ci : Nat → Int32} {cf : Nat → Nat → Int32} {mi : Nat → Int32} {mf : Nat → Nat → Int32} {ri : Nat → Int32} {rf : Nat → Nat → Int32} {kl kb kf ks : Nat → Int32} {kw : Nat → Nat → Int32} {mlM mbM mfM msM : Nat → Int32} {mwM : Nat → Nat → Int32} (hr : rlT cap ci cf mi mf ri rf kl kb kf ks kw mlM mbM mfM msM mwM) (x1 : Int32) : ∃ o q, f_X10_spillsAt x1 (ci 18) (cf 14) (cf 15) (cf 16) (cf 17) (cf 18) (ci 25) (ci 26) (ci 27) (ci 66) (ci 67) (cf 49) (cf 50) (cf 51) (cf 53) (cf 54) (ci 0) = some o ∧ f_X12_spillsAt x1 (mi 0) (mi 1) (mi 2) (ri 2) (ri 3) (rf 0) (rf 1) (rf 2) (rf 4) (rf 5) (mf 1) (mf 5) (mf 6) (mf 7) (mf 8) (mi 13) = some q ∧ o.1 = q.1 ∧ rlT (cap + 1) (up ci [(0, o.2.2.2.2.2.2.2.2.2), (25, o.2.2.2.2.2.2.1), (26, o.2.2.2.2.2.2.2.1), (27, o.2.2.2.2.2.2.2.2.1)]) (up cf [(14, o.2.1), (15, o.2.2.1), (16, o.2.2.2.1), (17, o.2.2.2.2.1), (18, o.2.2.2.2.2.1)]) (up mi [(0, q.2.1), (1, q.2.2.1), (2, q.2.2.2.1), (13, q.2.2.2.2.2.2.2.2)]) (up mf [(5, q.2.2.2.2.1), (6, q.2.2.2.2.2.1), (7, q.2.2.2.2.2.2.1), (8, q.2.2.2.2.2.2.2.1)]) ri rf kl kb kf ks kw mlM mbM mfM msM mwM := by
  obtain ⟨R, l, hC, hR, D, D2, hN, hM, hK⟩ := hr
  obtain ⟨d64, d65, d66, d67, d68, d69, d70, d71, dk, dw, db, hm, da, du, hb, hs, hbw, hbd⟩ := id D
  obtain ⟨r0, r1, r2, r3, r4, r5, r6, r7, ek, ew, eb, hm2, ea, eu, hb2, hs2, hbw2, hbd2⟩ := id D2
  have T : tR R (cf 49) (cf 50) (cf 51) (cf 53) (cf 54) := ⟨dk, dw, db, da, du⟩
  have T2 : tR R (rf 0) (rf 1) (rf 2) (rf 4) (rf 5) := ⟨ek, ew, eb, ea, eu⟩
  obtain ⟨⟨L, U, f, sd, V⟩, ⟨a18, a19, a20, a21, hwr⟩, hv, ⟨hL, hU, hdj, hsd, hVc⟩, hf9⟩ := id hN
  replace a18 : ci 18 = nI L := a18
  replace a19 : ci 19 = nI U := a19
  replace a20 : ci 20 = nI f := a20
  replace a21 : ci 21 = nI sd := a21
  replace hwr : rw_ (R 0 1) (cf 13) V := hwr
  replace hv : vR (R 0 1) (mf 1) L U f sd V := hv
  replace hL : L < 2 ^ R 0 1 := hL
  replace hU : U < 2 ^ R 0 1 := hU
  replace hdj : dj L U := hdj
  replace hsd : sd ≤ 65536 := hsd
  replace hVc : ∀ j, j < R 0 1 → V j ≤ cap := hVc
  replace hf9 : f ≤ 999 := hf9
  have hV : ∀ j, j < R 0 1 → V j < 2 ^ 20 := fun j hj => Nat.lt_of_le_of_lt (hVc j hj) (Nat.lt_trans hcap (by decide))
  have hf : f < 2 ^ 16 := Nat.lt_of_le_of_lt hf9 (by decide)
  have hq : qOK R cap (L, U, sd, V) := ⟨hL, hU, hdj, hsd, hVc⟩
  rw [a18, d66, d67, r2, r3]
  obtain ⟨ans, t, ⟨w, co, de, sp, ha, be, al, si, e1⟩, wi, wa, de2, sp2, be2, e2⟩ := j_spillsAt hR hL T T2 hv x1 (cf 14) (cf 15) (cf 16) (cf 17) (cf 18) (ci 25) (ci 26) (ci 27) (ci 0) (mi 0) (mi 1) (mi 2) (mf 5) (mf 6) (mf 7) (mf 8) (mi 13)
  have h4 : ¬ t = 4 := nt_spillsAt _ _ _ _ _ _ _ _ _ _ _ _ _ _ _ _ _ _  _ e1
  exact ⟨_, _, e1, e2, rfl, R, l, ⟨hC.1, hC.2.1, rfl, wh_n h4 rfl, hC.2.2.2.2⟩, hR, D, D2, nowE_up (Nat.le_succ _) hN, memE_up (Nat.le_succ _) hM, mrkE_up (Nat.le_succ _) hK⟩
set_option maxHeartbeats 2000000 in
theorem pU_17 {ci : Nat → Int32} {cf : Nat → Nat → Int32} {mi : Nat → Int32} {mf : Nat → Nat → Int32} (hr : rlU ci cf mi mf) (x1 : Int32) : ∃ o q, f_X10_spillsAt x1 (ci 18) (cf 14) (cf 15) (cf 16) (cf 17) (cf 18) (ci 25) (ci 26) (ci 27) (ci 66) (ci 67) (cf 49) (cf 50) (cf 51) (cf 53) (cf 54) (ci 0) = some o ∧ f_X12_spillsAtN x1 (mi 0) (mi 1) (mi 2) = some q ∧ o.1 = q.1 ∧ rlU (up ci [(0, o.2.2.2.2.2.2.2.2.2), (25, o.2.2.2.2.2.2.1), (26, o.2.2.2.2.2.2.2.1), (27, o.2.2.2.2.2.2.2.2.1)]) (up cf [(14, o.2.1), (15, o.2.2.1), (16, o.2.2.2.1), (17, o.2.2.2.2.1), (18, o.2.2.2.2.2.1)]) (up mi [(0, q.2.1), (1, q.2.2.1), (2, q.2.2.2)]) mf := by
  obtain ⟨hC, u20, u21, u23, u24, u64, u65, u66, u67, u68, u69, u70⟩ := hr
  rw [u66, u67]
  obtain ⟨o, e1, h1, h2⟩ := n_spillsAt x1 (ci 18) (cf 14) (cf 15) (cf 16) (cf 17) (cf 18) (ci 25) (ci 26) (ci 27) (cf 49) (cf 50) (cf 51) (cf 53) (cf 54) (ci 0)
  exact ⟨o, _, e1, q_spillsAt _ _ _ _ , h1, ⟨hC.1, hC.2.1, h2.symm, wh_n (ne4_1 h2) rfl, hC.2.2.2.2⟩, u20, u21, u23, u24, u64, u65, u66, u67, u68, u69, u70⟩
set_option maxHeartbeats 2000000 in
theorem pT_18 {cap : Nat} (hcap : cap < 2 ^ 15) {ci : Nat → Int32} {cf : Nat → Nat → Int32} {mi : Nat → Int32} {mf : Nat → Nat → Int32} {ri : Nat → Int32} {rf : Nat → Nat → Int32} {kl kb kf ks : Nat → Int32} {kw : Nat → Nat → Int32} {mlM mbM mfM msM : Nat → Int32} {mwM : Nat → Nat → Int32} (hr : rlT cap ci cf mi mf ri rf kl kb kf ks kw mlM mbM mfM msM mwM) : ∃ o q, f_X10_safeFlow (ci 18) (cf 14) (ci 66) (ci 67) (cf 50) (cf 51) (cf 53) (cf 54) (ci 0) = some o ∧ f_X12_safeFlow (mi 0) (mi 1) (mi 2) (ri 2) (ri 3) (rf 0) (rf 1) (rf 2) (rf 4) (rf 5) (mf 1) (mf 5) (mf 6) (mf 7) (mf 8) (mi 13) = some q ∧ o.1 = q.1 ∧ rlT (cap + 1) (up ci [(0, o.2.2)]) (up cf [(14, o.2.1)]) (up mi [(0, q.2.1), (1, q.2.2.1), (2, q.2.2.2.1), (13, q.2.2.2.2.2.2.2.2)]) (up mf [(5, q.2.2.2.2.1), (6, q.2.2.2.2.2.1), (7, q.2.2.2.2.2.2.1), (8, q.2.2.2.2.2.2.2.1)]) ri rf kl kb kf ks kw mlM mbM mfM msM mwM := by
  obtain ⟨R, l, hC, hR, D, D2, hN, hM, hK⟩ := hr
  obtain ⟨d64, d65, d66, d67, d68, d69, d70, d71, dk, dw, db, hm, da, du, hb, hs, hbw, hbd⟩ := id D
  obtain ⟨r0, r1, r2, r3, r4, r5, r6, r7, ek, ew, eb, hm2, ea, eu, hb2, hs2, hbw2, hbd2⟩ := id D2
  have T : tR R (cf 49) (cf 50) (cf 51) (cf 53) (cf 54) := ⟨dk, dw, db, da, du⟩
  have T2 : tR R (rf 0) (rf 1) (rf 2) (rf 4) (rf 5) := ⟨ek, ew, eb, ea, eu⟩
  obtain ⟨⟨L, U, f, sd, V⟩, ⟨a18, a19, a20, a21, hwr⟩, hv, ⟨hL, hU, hdj, hsd, hVc⟩, hf9⟩ := id hN
  replace a18 : ci 18 = nI L := a18
  replace a19 : ci 19 = nI U := a19
  replace a20 : ci 20 = nI f := a20
  replace a21 : ci 21 = nI sd := a21
  replace hwr : rw_ (R 0 1) (cf 13) V := hwr
  replace hv : vR (R 0 1) (mf 1) L U f sd V := hv
  replace hL : L < 2 ^ R 0 1 := hL
  replace hU : U < 2 ^ R 0 1 := hU
  replace hdj : dj L U := hdj
  replace hsd : sd ≤ 65536 := hsd
  replace hVc : ∀ j, j < R 0 1 → V j ≤ cap := hVc
  replace hf9 : f ≤ 999 := hf9
  have hV : ∀ j, j < R 0 1 → V j < 2 ^ 20 := fun j hj => Nat.lt_of_le_of_lt (hVc j hj) (Nat.lt_trans hcap (by decide))
  have hf : f < 2 ^ 16 := Nat.lt_of_le_of_lt hf9 (by decide)
  have hq : qOK R cap (L, U, sd, V) := ⟨hL, hU, hdj, hsd, hVc⟩
  rw [a18, d66, d67, r2, r3]
  obtain ⟨u0, e1⟩ := s_safeFlow hR hL T (cf 14) (ci 0)
  obtain ⟨z0, z1, z2, z3, z4, e2⟩ := m_safeFlow hR hL T2 hv (mi 0) (mi 1) (mi 2) (mf 5) (mf 6) (mf 7) (mf 8) (mi 13)
  exact ⟨_, _, e1, e2, rfl, R, l, ⟨hC.1, hC.2.1, rfl, wh_n ne4_0 rfl, hC.2.2.2.2⟩, hR, D, D2, nowE_up (Nat.le_succ _) hN, memE_up (Nat.le_succ _) hM, mrkE_up (Nat.le_succ _) hK⟩
set_option maxHeartbeats 2000000 in
theorem pU_18 {ci : Nat → Int32} {cf : Nat → Nat → Int32} {mi : Nat → Int32} {mf : Nat → Nat → Int32} (hr : rlU ci cf mi mf) : ∃ o q, f_X10_safeFlow (ci 18) (cf 14) (ci 66) (ci 67) (cf 50) (cf 51) (cf 53) (cf 54) (ci 0) = some o ∧ f_X12_safeFlowN (mi 0) (mi 1) (mi 2) = some q ∧ o.1 = q.1 ∧ rlU (up ci [(0, o.2.2)]) (up cf [(14, o.2.1)]) (up mi [(0, q.2.1), (1, q.2.2.1), (2, q.2.2.2)]) mf := by
  obtain ⟨hC, u20, u21, u23, u24, u64, u65, u66, u67, u68, u69, u70⟩ := hr
  rw [u66, u67]
  obtain ⟨o, e1, h1, h2⟩ := n_safeFlow (ci 18) (cf 14) (cf 50) (cf 51) (cf 53) (cf 54) (ci 0)
  exact ⟨o, _, e1, q_safeFlow _ _ _ , h1, ⟨hC.1, hC.2.1, h2.symm, wh_n (ne4_1 h2) rfl, hC.2.2.2.2⟩, u20, u21, u23, u24, u64, u65, u66, u67, u68, u69, u70⟩
set_option maxHeartbeats 2000000 in
theorem pT_19 {cap : Nat} (hcap : cap < 2 ^ 15) {ci : Nat → Int32} {cf : Nat → Nat → Int32} {mi : Nat → Int32} {mf : Nat → Nat → Int32} {ri : Nat → Int32} {rf : Nat → Nat → Int32} {kl kb kf ks : Nat → Int32} {kw : Nat → Nat → Int32} {mlM mbM mfM msM : Nat → Int32} {mwM : Nat → Nat → Int32} (hr : rlT cap ci cf mi mf ri rf kl kb kf ks kw mlM mbM mfM msM mwM) : ∃ o q, f_X10_lacing (ci 19) (ci 20) (cf 13) (cf 19) (cf 20) (cf 21) (cf 22) (cf 23) (ci 34) (ci 35) (ci 36) (ci 28) (ci 29) (ci 30) (ci 31) (ci 65) (ci 66) (ci 67) (cf 49) (cf 50) (cf 51) (cf 53) (cf 54) (cf 55) (ci 0) = some o ∧ f_X12_lacing (mi 0) (mi 1) (mi 2) (ri 1) (ri 2) (ri 3) (rf 0) (rf 1) (rf 2) (rf 4) (rf 5) (rf 6) (mf 1) (mf 5) (mf 6) (mf 7) (mf 8) (mi 13) (mi 14) (mi 15) (mi 16) (mi 17) = some q ∧ o.1 = q.1 ∧ rlT (cap + 1) (up ci [(0, o.2.2.2.2.2.2.2.2.2.2.2.2.2), (28, o.2.2.2.2.2.2.2.2.2.1), (29, o.2.2.2.2.2.2.2.2.2.2.1), (30, o.2.2.2.2.2.2.2.2.2.2.2.1), (31, o.2.2.2.2.2.2.2.2.2.2.2.2.1), (34, o.2.2.2.2.2.2.1), (35, o.2.2.2.2.2.2.2.1), (36, o.2.2.2.2.2.2.2.2.1)]) (up cf [(19, o.2.1), (20, o.2.2.1), (21, o.2.2.2.1), (22, o.2.2.2.2.1), (23, o.2.2.2.2.2.1)]) (up mi [(0, q.2.1), (1, q.2.2.1), (2, q.2.2.2.1), (13, q.2.2.2.2.2.2.2.2.1), (14, q.2.2.2.2.2.2.2.2.2.1), (15, q.2.2.2.2.2.2.2.2.2.2.1), (16, q.2.2.2.2.2.2.2.2.2.2.2.1), (17, q.2.2.2.2.2.2.2.2.2.2.2.2)]) (up mf [(5, q.2.2.2.2.1), (6, q.2.2.2.2.2.1), (7, q.2.2.2.2.2.2.1), (8, q.2.2.2.2.2.2.2.1)]) ri rf kl kb kf ks kw mlM mbM mfM msM mwM := by
  obtain ⟨R, l, hC, hR, D, D2, hN, hM, hK⟩ := hr
  obtain ⟨d64, d65, d66, d67, d68, d69, d70, d71, dk, dw, db, hm, da, du, hb, hs, hbw, hbd⟩ := id D
  obtain ⟨r0, r1, r2, r3, r4, r5, r6, r7, ek, ew, eb, hm2, ea, eu, hb2, hs2, hbw2, hbd2⟩ := id D2
  have T : tR R (cf 49) (cf 50) (cf 51) (cf 53) (cf 54) := ⟨dk, dw, db, da, du⟩
  have T2 : tR R (rf 0) (rf 1) (rf 2) (rf 4) (rf 5) := ⟨ek, ew, eb, ea, eu⟩
  obtain ⟨⟨L, U, f, sd, V⟩, ⟨a18, a19, a20, a21, hwr⟩, hv, ⟨hL, hU, hdj, hsd, hVc⟩, hf9⟩ := id hN
  replace a18 : ci 18 = nI L := a18
  replace a19 : ci 19 = nI U := a19
  replace a20 : ci 20 = nI f := a20
  replace a21 : ci 21 = nI sd := a21
  replace hwr : rw_ (R 0 1) (cf 13) V := hwr
  replace hv : vR (R 0 1) (mf 1) L U f sd V := hv
  replace hL : L < 2 ^ R 0 1 := hL
  replace hU : U < 2 ^ R 0 1 := hU
  replace hdj : dj L U := hdj
  replace hsd : sd ≤ 65536 := hsd
  replace hVc : ∀ j, j < R 0 1 → V j ≤ cap := hVc
  replace hf9 : f ≤ 999 := hf9
  have hV : ∀ j, j < R 0 1 → V j < 2 ^ 20 := fun j hj => Nat.lt_of_le_of_lt (hVc j hj) (Nat.lt_trans hcap (by decide))
  have hf : f < 2 ^ 16 := Nat.lt_of_le_of_lt hf9 (by decide)
  have hq : qOK R cap (L, U, sd, V) := ⟨hL, hU, hdj, hsd, hVc⟩
  rw [a19, a20, d65, d66, d67, r1, r2, r3]
  obtain ⟨o, q, e1, e2, h1, h2, h3, h5, h6⟩ := j_lacing hR hU hdj hf T T2 hv hb hb2 hwr hV (cf 19) (cf 20) (cf 21) (cf 22) (cf 23) (ci 34) (ci 35) (ci 36) (ci 28) (ci 29) (ci 30) (ci 31) (ci 0) (mi 0) (mi 1) (mi 2) (mf 5) (mf 6) (mf 7) (mf 8) (mi 13) (mi 14) (mi 15) (mi 16) (mi 17)
  exact ⟨o, q, e1, e2, h1.symm, R, l, ⟨hC.1, hC.2.1, h3, wh_n (ne4_z h6) h5, hC.2.2.2.2⟩, hR, D, D2, nowE_up (Nat.le_succ _) hN, memE_up (Nat.le_succ _) hM, mrkE_up (Nat.le_succ _) hK⟩
set_option maxHeartbeats 2000000 in
theorem pU_19 {ci : Nat → Int32} {cf : Nat → Nat → Int32} {mi : Nat → Int32} {mf : Nat → Nat → Int32} (hr : rlU ci cf mi mf) : ∃ o q, f_X10_lacing (ci 19) (ci 20) (cf 13) (cf 19) (cf 20) (cf 21) (cf 22) (cf 23) (ci 34) (ci 35) (ci 36) (ci 28) (ci 29) (ci 30) (ci 31) (ci 65) (ci 66) (ci 67) (cf 49) (cf 50) (cf 51) (cf 53) (cf 54) (cf 55) (ci 0) = some o ∧ f_X12_lacingN (mi 0) (mi 1) (mi 2) = some q ∧ o.1 = q.1 ∧ rlU (up ci [(0, o.2.2.2.2.2.2.2.2.2.2.2.2.2), (28, o.2.2.2.2.2.2.2.2.2.1), (29, o.2.2.2.2.2.2.2.2.2.2.1), (30, o.2.2.2.2.2.2.2.2.2.2.2.1), (31, o.2.2.2.2.2.2.2.2.2.2.2.2.1), (34, o.2.2.2.2.2.2.1), (35, o.2.2.2.2.2.2.2.1), (36, o.2.2.2.2.2.2.2.2.1)]) (up cf [(19, o.2.1), (20, o.2.2.1), (21, o.2.2.2.1), (22, o.2.2.2.2.1), (23, o.2.2.2.2.2.1)]) (up mi [(0, q.2.1), (1, q.2.2.1), (2, q.2.2.2)]) mf := by
  obtain ⟨hC, u20, u21, u23, u24, u64, u65, u66, u67, u68, u69, u70⟩ := hr
  rw [u66, u67]
  obtain ⟨o, e1, h1, h2⟩ := n_lacing (ci 19) (ci 20) (cf 13) (cf 19) (cf 20) (cf 21) (cf 22) (cf 23) (ci 34) (ci 35) (ci 36) (ci 28) (ci 29) (ci 30) (ci 31) (ci 65) (cf 49) (cf 50) (cf 51) (cf 53) (cf 54) (cf 55) (ci 0)
  exact ⟨o, _, e1, q_lacing _ _ _ , h1, ⟨hC.1, hC.2.1, h2.symm, wh_n (ne4_1 h2) rfl, hC.2.2.2.2⟩, u20, u21, u23, u24, u64, u65, u66, u67, u68, u69, u70⟩
set_option maxHeartbeats 2000000 in
theorem pT_20 {cap : Nat} (hcap : cap < 2 ^ 15) {ci : Nat → Int32} {cf : Nat → Nat → Int32} {mi : Nat → Int32} {mf : Nat → Nat → Int32} {ri : Nat → Int32} {rf : Nat → Nat → Int32} {kl kb kf ks : Nat → Int32} {kw : Nat → Nat → Int32} {mlM mbM mfM msM : Nat → Int32} {mwM : Nat → Nat → Int32} (hr : rlT cap ci cf mi mf ri rf kl kb kf ks kw mlM mbM mfM msM mwM) : ∃ o q, f_X10_length (ci 19) (ci 20) (cf 13) (cf 19) (cf 20) (cf 21) (cf 22) (cf 23) (ci 34) (ci 35) (ci 36) (ci 28) (ci 29) (ci 30) (ci 31) (ci 65) (ci 66) (ci 67) (cf 49) (cf 50) (cf 51) (cf 53) (cf 54) (cf 55) (ci 0) = some o ∧ f_X12_length (mi 0) (mi 1) (mi 2) (ri 1) (ri 2) (ri 3) (rf 0) (rf 1) (rf 2) (rf 4) (rf 5) (rf 6) (mf 1) (mf 5) (mf 6) (mf 7) (mf 8) (mi 13) (mi 14) (mi 15) (mi 16) (mi 17) = some q ∧ o.1 = q.1 ∧ rlT (cap + 1) (up ci [(0, o.2.2.2.2.2.2.2.2.2.2.2.2.2), (28, o.2.2.2.2.2.2.2.2.2.1), (29, o.2.2.2.2.2.2.2.2.2.2.1), (30, o.2.2.2.2.2.2.2.2.2.2.2.1), (31, o.2.2.2.2.2.2.2.2.2.2.2.2.1), (34, o.2.2.2.2.2.2.1), (35, o.2.2.2.2.2.2.2.1), (36, o.2.2.2.2.2.2.2.2.1)]) (up cf [(19, o.2.1), (20, o.2.2.1), (21, o.2.2.2.1), (22, o.2.2.2.2.1), (23, o.2.2.2.2.2.1)]) (up mi [(0, q.2.1), (1, q.2.2.1), (2, q.2.2.2.1), (13, q.2.2.2.2.2.2.2.2.1), (14, q.2.2.2.2.2.2.2.2.2.1), (15, q.2.2.2.2.2.2.2.2.2.2.1), (16, q.2.2.2.2.2.2.2.2.2.2.2.1), (17, q.2.2.2.2.2.2.2.2.2.2.2.2)]) (up mf [(5, q.2.2.2.2.1), (6, q.2.2.2.2.2.1), (7, q.2.2.2.2.2.2.1), (8, q.2.2.2.2.2.2.2.1)]) ri rf kl kb kf ks kw mlM mbM mfM msM mwM := by
  obtain ⟨R, l, hC, hR, D, D2, hN, hM, hK⟩ := hr
  obtain ⟨d64, d65, d66, d67, d68, d69, d70, d71, dk, dw, db, hm, da, du, hb, hs, hbw, hbd⟩ := id D
  obtain ⟨r0, r1, r2, r3, r4, r5, r6, r7, ek, ew, eb, hm2, ea, eu, hb2, hs2, hbw2, hbd2⟩ := id D2
  have T : tR R (cf 49) (cf 50) (cf 51) (cf 53) (cf 54) := ⟨dk, dw, db, da, du⟩
  have T2 : tR R (rf 0) (rf 1) (rf 2) (rf 4) (rf 5) := ⟨ek, ew, eb, ea, eu⟩
  obtain ⟨⟨L, U, f, sd, V⟩, ⟨a18, a19, a20, a21, hwr⟩, hv, ⟨hL, hU, hdj, hsd, hVc⟩, hf9⟩ := id hN
  replace a18 : ci 18 = nI L := a18
  replace a19 : ci 19 = nI U := a19
  replace a20 : ci 20 = nI f := a20
  replace a21 : ci 21 = nI sd := a21
  replace hwr : rw_ (R 0 1) (cf 13) V := hwr
  replace hv : vR (R 0 1) (mf 1) L U f sd V := hv
  replace hL : L < 2 ^ R 0 1 := hL
  replace hU : U < 2 ^ R 0 1 := hU
  replace hdj : dj L U := hdj
  replace hsd : sd ≤ 65536 := hsd
  replace hVc : ∀ j, j < R 0 1 → V j ≤ cap := hVc
  replace hf9 : f ≤ 999 := hf9
  have hV : ∀ j, j < R 0 1 → V j < 2 ^ 20 := fun j hj => Nat.lt_of_le_of_lt (hVc j hj) (Nat.lt_trans hcap (by decide))
  have hf : f < 2 ^ 16 := Nat.lt_of_le_of_lt hf9 (by decide)
  have hq : qOK R cap (L, U, sd, V) := ⟨hL, hU, hdj, hsd, hVc⟩
  rw [a19, a20, d65, d66, d67, r1, r2, r3]
  obtain ⟨o, q, e1, e2, h1, h2, h3, h5, h6⟩ := j_length hR hU hdj hf T T2 hv hb hb2 hwr hV (cf 19) (cf 20) (cf 21) (cf 22) (cf 23) (ci 34) (ci 35) (ci 36) (ci 28) (ci 29) (ci 30) (ci 31) (ci 0) (mi 0) (mi 1) (mi 2) (mf 5) (mf 6) (mf 7) (mf 8) (mi 13) (mi 14) (mi 15) (mi 16) (mi 17)
  exact ⟨o, q, e1, e2, h1.symm, R, l, ⟨hC.1, hC.2.1, h3, wh_n (ne4_z h6) h5, hC.2.2.2.2⟩, hR, D, D2, nowE_up (Nat.le_succ _) hN, memE_up (Nat.le_succ _) hM, mrkE_up (Nat.le_succ _) hK⟩
set_option maxHeartbeats 2000000 in
theorem pU_20 {ci : Nat → Int32} {cf : Nat → Nat → Int32} {mi : Nat → Int32} {mf : Nat → Nat → Int32} (hr : rlU ci cf mi mf) : ∃ o q, f_X10_length (ci 19) (ci 20) (cf 13) (cf 19) (cf 20) (cf 21) (cf 22) (cf 23) (ci 34) (ci 35) (ci 36) (ci 28) (ci 29) (ci 30) (ci 31) (ci 65) (ci 66) (ci 67) (cf 49) (cf 50) (cf 51) (cf 53) (cf 54) (cf 55) (ci 0) = some o ∧ f_X12_lengthN (mi 0) (mi 1) (mi 2) = some q ∧ o.1 = q.1 ∧ rlU (up ci [(0, o.2.2.2.2.2.2.2.2.2.2.2.2.2), (28, o.2.2.2.2.2.2.2.2.2.1), (29, o.2.2.2.2.2.2.2.2.2.2.1), (30, o.2.2.2.2.2.2.2.2.2.2.2.1), (31, o.2.2.2.2.2.2.2.2.2.2.2.2.1), (34, o.2.2.2.2.2.2.1), (35, o.2.2.2.2.2.2.2.1), (36, o.2.2.2.2.2.2.2.2.1)]) (up cf [(19, o.2.1), (20, o.2.2.1), (21, o.2.2.2.1), (22, o.2.2.2.2.1), (23, o.2.2.2.2.2.1)]) (up mi [(0, q.2.1), (1, q.2.2.1), (2, q.2.2.2)]) mf := by
  obtain ⟨hC, u20, u21, u23, u24, u64, u65, u66, u67, u68, u69, u70⟩ := hr
  rw [u66, u67]
  obtain ⟨o, e1, h1, h2⟩ := n_length (ci 19) (ci 20) (cf 13) (cf 19) (cf 20) (cf 21) (cf 22) (cf 23) (ci 34) (ci 35) (ci 36) (ci 28) (ci 29) (ci 30) (ci 31) (ci 65) (cf 49) (cf 50) (cf 51) (cf 53) (cf 54) (cf 55) (ci 0)
  exact ⟨o, _, e1, q_length _ _ _ , h1, ⟨hC.1, hC.2.1, h2.symm, wh_n (ne4_1 h2) rfl, hC.2.2.2.2⟩, u20, u21, u23, u24, u64, u65, u66, u67, u68, u69, u70⟩
set_option maxHeartbeats 2000000 in
theorem pT_21 {cap : Nat} (hcap : cap < 2 ^ 15) {ci : Nat → Int32} {cf : Nat → Nat → Int32} {mi : Nat → Int32} {mf : Nat → Nat → Int32} {ri : Nat → Int32} {rf : Nat → Nat → Int32} {kl kb kf ks : Nat → Int32} {kw : Nat → Nat → Int32} {mlM mbM mfM msM : Nat → Int32} {mwM : Nat → Nat → Int32} (hr : rlT cap ci cf mi mf ri rf kl kb kf ks kw mlM mbM mfM msM mwM) : ∃ o q, f_X10_lengthSum (ci 19) (ci 20) (cf 13) (cf 19) (cf 20) (cf 21) (cf 22) (cf 23) (ci 34) (ci 35) (ci 36) (ci 28) (ci 29) (ci 30) (ci 31) (ci 65) (ci 66) (ci 67) (cf 49) (cf 50) (cf 51) (cf 53) (cf 54) (cf 55) (ci 0) = some o ∧ f_X12_lengthSum (mi 0) (mi 1) (mi 2) (ri 1) (ri 2) (ri 3) (rf 0) (rf 1) (rf 2) (rf 4) (rf 5) (rf 6) (mf 1) (mf 5) (mf 6) (mf 7) (mf 8) (mi 13) (mi 14) (mi 15) (mi 16) (mi 17) = some q ∧ o.1 = q.1 ∧ rlT (cap + 1) (up ci [(0, o.2.2.2.2.2.2.2.2.2.2.2.2.2), (28, o.2.2.2.2.2.2.2.2.2.1), (29, o.2.2.2.2.2.2.2.2.2.2.1), (30, o.2.2.2.2.2.2.2.2.2.2.2.1), (31, o.2.2.2.2.2.2.2.2.2.2.2.2.1), (34, o.2.2.2.2.2.2.1), (35, o.2.2.2.2.2.2.2.1), (36, o.2.2.2.2.2.2.2.2.1)]) (up cf [(19, o.2.1), (20, o.2.2.1), (21, o.2.2.2.1), (22, o.2.2.2.2.1), (23, o.2.2.2.2.2.1)]) (up mi [(0, q.2.1), (1, q.2.2.1), (2, q.2.2.2.1), (13, q.2.2.2.2.2.2.2.2.1), (14, q.2.2.2.2.2.2.2.2.2.1), (15, q.2.2.2.2.2.2.2.2.2.2.1), (16, q.2.2.2.2.2.2.2.2.2.2.2.1), (17, q.2.2.2.2.2.2.2.2.2.2.2.2)]) (up mf [(5, q.2.2.2.2.1), (6, q.2.2.2.2.2.1), (7, q.2.2.2.2.2.2.1), (8, q.2.2.2.2.2.2.2.1)]) ri rf kl kb kf ks kw mlM mbM mfM msM mwM := by
  obtain ⟨R, l, hC, hR, D, D2, hN, hM, hK⟩ := hr
  obtain ⟨d64, d65, d66, d67, d68, d69, d70, d71, dk, dw, db, hm, da, du, hb, hs, hbw, hbd⟩ := id D
  obtain ⟨r0, r1, r2, r3, r4, r5, r6, r7, ek, ew, eb, hm2, ea, eu, hb2, hs2, hbw2, hbd2⟩ := id D2
  have T : tR R (cf 49) (cf 50) (cf 51) (cf 53) (cf 54) := ⟨dk, dw, db, da, du⟩
  have T2 : tR R (rf 0) (rf 1) (rf 2) (rf 4) (rf 5) := ⟨ek, ew, eb, ea, eu⟩
  obtain ⟨⟨L, U, f, sd, V⟩, ⟨a18, a19, a20, a21, hwr⟩, hv, ⟨hL, hU, hdj, hsd, hVc⟩, hf9⟩ := id hN
  replace a18 : ci 18 = nI L := a18
  replace a19 : ci 19 = nI U := a19
  replace a20 : ci 20 = nI f := a20
  replace a21 : ci 21 = nI sd := a21
  replace hwr : rw_ (R 0 1) (cf 13) V := hwr
  replace hv : vR (R 0 1) (mf 1) L U f sd V := hv
  replace hL : L < 2 ^ R 0 1 := hL
  replace hU : U < 2 ^ R 0 1 := hU
  replace hdj : dj L U := hdj
  replace hsd : sd ≤ 65536 := hsd
  replace hVc : ∀ j, j < R 0 1 → V j ≤ cap := hVc
  replace hf9 : f ≤ 999 := hf9
  have hV : ∀ j, j < R 0 1 → V j < 2 ^ 20 := fun j hj => Nat.lt_of_le_of_lt (hVc j hj) (Nat.lt_trans hcap (by decide))
  have hf : f < 2 ^ 16 := Nat.lt_of_le_of_lt hf9 (by decide)
  have hq : qOK R cap (L, U, sd, V) := ⟨hL, hU, hdj, hsd, hVc⟩
  rw [a19, a20, d65, d66, d67, r1, r2, r3]
  obtain ⟨o, q, e1, e2, h1, h2, h3, h5, h6⟩ := j_lengthSum hR hU hdj hf T T2 hv hb hb2 hwr hV (cf 19) (cf 20) (cf 21) (cf 22) (cf 23) (ci 34) (ci 35) (ci 36) (ci 28) (ci 29) (ci 30) (ci 31) (ci 0) (mi 0) (mi 1) (mi 2) (mf 5) (mf 6) (mf 7) (mf 8) (mi 13) (mi 14) (mi 15) (mi 16) (mi 17)
  exact ⟨o, q, e1, e2, h1.symm, R, l, ⟨hC.1, hC.2.1, h3, wh_n (ne4_z h6) h5, hC.2.2.2.2⟩, hR, D, D2, nowE_up (Nat.le_succ _) hN, memE_up (Nat.le_succ _) hM, mrkE_up (Nat.le_succ _) hK⟩
set_option maxHeartbeats 2000000 in
theorem pU_21 {ci : Nat → Int32} {cf : Nat → Nat → Int32} {mi : Nat → Int32} {mf : Nat → Nat → Int32} (hr : rlU ci cf mi mf) : ∃ o q, f_X10_lengthSum (ci 19) (ci 20) (cf 13) (cf 19) (cf 20) (cf 21) (cf 22) (cf 23) (ci 34) (ci 35) (ci 36) (ci 28) (ci 29) (ci 30) (ci 31) (ci 65) (ci 66) (ci 67) (cf 49) (cf 50) (cf 51) (cf 53) (cf 54) (cf 55) (ci 0) = some o ∧ f_X12_lengthSumN (mi 0) (mi 1) (mi 2) = some q ∧ o.1 = q.1 ∧ rlU (up ci [(0, o.2.2.2.2.2.2.2.2.2.2.2.2.2), (28, o.2.2.2.2.2.2.2.2.2.1), (29, o.2.2.2.2.2.2.2.2.2.2.1), (30, o.2.2.2.2.2.2.2.2.2.2.2.1), (31, o.2.2.2.2.2.2.2.2.2.2.2.2.1), (34, o.2.2.2.2.2.2.1), (35, o.2.2.2.2.2.2.2.1), (36, o.2.2.2.2.2.2.2.2.1)]) (up cf [(19, o.2.1), (20, o.2.2.1), (21, o.2.2.2.1), (22, o.2.2.2.2.1), (23, o.2.2.2.2.2.1)]) (up mi [(0, q.2.1), (1, q.2.2.1), (2, q.2.2.2)]) mf := by
  obtain ⟨hC, u20, u21, u23, u24, u64, u65, u66, u67, u68, u69, u70⟩ := hr
  rw [u66, u67]
  obtain ⟨o, e1, h1, h2⟩ := n_lengthSum (ci 19) (ci 20) (cf 13) (cf 19) (cf 20) (cf 21) (cf 22) (cf 23) (ci 34) (ci 35) (ci 36) (ci 28) (ci 29) (ci 30) (ci 31) (ci 65) (cf 49) (cf 50) (cf 51) (cf 53) (cf 54) (cf 55) (ci 0)
  exact ⟨o, _, e1, q_lengthSum _ _ _ , h1, ⟨hC.1, hC.2.1, h2.symm, wh_n (ne4_1 h2) rfl, hC.2.2.2.2⟩, u20, u21, u23, u24, u64, u65, u66, u67, u68, u69, u70⟩
set_option maxHeartbeats 2000000 in
theorem pT_22 {cap : Nat} (hcap : cap < 2 ^ 15) {ci : Nat → Int32} {cf : Nat → Nat → Int32} {mi : Nat → Int32} {mf : Nat → Nat → Int32} {ri : Nat → Int32} {rf : Nat → Nat → Int32} {kl kb kf ks : Nat → Int32} {kw : Nat → Nat → Int32} {mlM mbM mfM msM : Nat → Int32} {mwM : Nat → Nat → Int32} (hr : rlT cap ci cf mi mf ri rf kl kb kf ks kw mlM mbM mfM msM mwM) : ∃ o q, f_X10_lacings (ci 19) (ci 20) (cf 13) (cf 19) (cf 20) (cf 21) (cf 22) (cf 23) (ci 34) (ci 35) (ci 36) (ci 28) (ci 29) (ci 30) (ci 31) (ci 65) (ci 66) (ci 67) (cf 49) (cf 50) (cf 51) (cf 53) (cf 54) (cf 55) (ci 0) = some o ∧ f_X12_lacings (mi 0) (mi 1) (mi 2) (ri 1) (ri 2) (ri 3) (rf 0) (rf 1) (rf 2) (rf 4) (rf 5) (rf 6) (mf 1) (mf 5) (mf 6) (mf 7) (mf 8) (mi 13) (mi 14) (mi 15) (mi 16) (mi 17) = some q ∧ o.1 = q.1 ∧ rlT (cap + 1) (up ci [(0, o.2.2.2.2.2.2.2.2.2.2.2.2.2), (28, o.2.2.2.2.2.2.2.2.2.1), (29, o.2.2.2.2.2.2.2.2.2.2.1), (30, o.2.2.2.2.2.2.2.2.2.2.2.1), (31, o.2.2.2.2.2.2.2.2.2.2.2.2.1), (34, o.2.2.2.2.2.2.1), (35, o.2.2.2.2.2.2.2.1), (36, o.2.2.2.2.2.2.2.2.1)]) (up cf [(19, o.2.1), (20, o.2.2.1), (21, o.2.2.2.1), (22, o.2.2.2.2.1), (23, o.2.2.2.2.2.1)]) (up mi [(0, q.2.1), (1, q.2.2.1), (2, q.2.2.2.1), (13, q.2.2.2.2.2.2.2.2.1), (14, q.2.2.2.2.2.2.2.2.2.1), (15, q.2.2.2.2.2.2.2.2.2.2.1), (16, q.2.2.2.2.2.2.2.2.2.2.2.1), (17, q.2.2.2.2.2.2.2.2.2.2.2.2)]) (up mf [(5, q.2.2.2.2.1), (6, q.2.2.2.2.2.1), (7, q.2.2.2.2.2.2.1), (8, q.2.2.2.2.2.2.2.1)]) ri rf kl kb kf ks kw mlM mbM mfM msM mwM := by
  obtain ⟨R, l, hC, hR, D, D2, hN, hM, hK⟩ := hr
  obtain ⟨d64, d65, d66, d67, d68, d69, d70, d71, dk, dw, db, hm, da, du, hb, hs, hbw, hbd⟩ := id D
  obtain ⟨r0, r1, r2, r3, r4, r5, r6, r7, ek, ew, eb, hm2, ea, eu, hb2, hs2, hbw2, hbd2⟩ := id D2
  have T : tR R (cf 49) (cf 50) (cf 51) (cf 53) (cf 54) := ⟨dk, dw, db, da, du⟩
  have T2 : tR R (rf 0) (rf 1) (rf 2) (rf 4) (rf 5) := ⟨ek, ew, eb, ea, eu⟩
  obtain ⟨⟨L, U, f, sd, V⟩, ⟨a18, a19, a20, a21, hwr⟩, hv, ⟨hL, hU, hdj, hsd, hVc⟩, hf9⟩ := id hN
  replace a18 : ci 18 = nI L := a18
  replace a19 : ci 19 = nI U := a19
  replace a20 : ci 20 = nI f := a20
  replace a21 : ci 21 = nI sd := a21
  replace hwr : rw_ (R 0 1) (cf 13) V := hwr
  replace hv : vR (R 0 1) (mf 1) L U f sd V := hv
  replace hL : L < 2 ^ R 0 1 := hL
  replace hU : U < 2 ^ R 0 1 := hU
  replace hdj : dj L U := hdj
  replace hsd : sd ≤ 65536 := hsd
  replace hVc : ∀ j, j < R 0 1 → V j ≤ cap := hVc
  replace hf9 : f ≤ 999 := hf9
  have hV : ∀ j, j < R 0 1 → V j < 2 ^ 20 := fun j hj => Nat.lt_of_le_of_lt (hVc j hj) (Nat.lt_trans hcap (by decide))
  have hf : f < 2 ^ 16 := Nat.lt_of_le_of_lt hf9 (by decide)
  have hq : qOK R cap (L, U, sd, V) := ⟨hL, hU, hdj, hsd, hVc⟩
  rw [a19, a20, d65, d66, d67, r1, r2, r3]
  obtain ⟨o, q, e1, e2, h1, h2, h3, h5, h6⟩ := j_lacings hR hU hdj hf T T2 hv hb hb2 hwr hV (cf 19) (cf 20) (cf 21) (cf 22) (cf 23) (ci 34) (ci 35) (ci 36) (ci 28) (ci 29) (ci 30) (ci 31) (ci 0) (mi 0) (mi 1) (mi 2) (mf 5) (mf 6) (mf 7) (mf 8) (mi 13) (mi 14) (mi 15) (mi 16) (mi 17)
  exact ⟨o, q, e1, e2, h1.symm, R, l, ⟨hC.1, hC.2.1, h3, wh_n (ne4_z h6) h5, hC.2.2.2.2⟩, hR, D, D2, nowE_up (Nat.le_succ _) hN, memE_up (Nat.le_succ _) hM, mrkE_up (Nat.le_succ _) hK⟩
set_option maxHeartbeats 2000000 in
theorem pU_22 {ci : Nat → Int32} {cf : Nat → Nat → Int32} {mi : Nat → Int32} {mf : Nat → Nat → Int32} (hr : rlU ci cf mi mf) : ∃ o q, f_X10_lacings (ci 19) (ci 20) (cf 13) (cf 19) (cf 20) (cf 21) (cf 22) (cf 23) (ci 34) (ci 35) (ci 36) (ci 28) (ci 29) (ci 30) (ci 31) (ci 65) (ci 66) (ci 67) (cf 49) (cf 50) (cf 51) (cf 53) (cf 54) (cf 55) (ci 0) = some o ∧ f_X12_lacingsN (mi 0) (mi 1) (mi 2) = some q ∧ o.1 = q.1 ∧ rlU (up ci [(0, o.2.2.2.2.2.2.2.2.2.2.2.2.2), (28, o.2.2.2.2.2.2.2.2.2.1), (29, o.2.2.2.2.2.2.2.2.2.2.1), (30, o.2.2.2.2.2.2.2.2.2.2.2.1), (31, o.2.2.2.2.2.2.2.2.2.2.2.2.1), (34, o.2.2.2.2.2.2.1), (35, o.2.2.2.2.2.2.2.1), (36, o.2.2.2.2.2.2.2.2.1)]) (up cf [(19, o.2.1), (20, o.2.2.1), (21, o.2.2.2.1), (22, o.2.2.2.2.1), (23, o.2.2.2.2.2.1)]) (up mi [(0, q.2.1), (1, q.2.2.1), (2, q.2.2.2)]) mf := by
  obtain ⟨hC, u20, u21, u23, u24, u64, u65, u66, u67, u68, u69, u70⟩ := hr
  rw [u66, u67]
  obtain ⟨o, e1, h1, h2⟩ := n_lacings (ci 19) (ci 20) (cf 13) (cf 19) (cf 20) (cf 21) (cf 22) (cf 23) (ci 34) (ci 35) (ci 36) (ci 28) (ci 29) (ci 30) (ci 31) (ci 65) (cf 49) (cf 50) (cf 51) (cf 53) (cf 54) (cf 55) (ci 0)
  exact ⟨o, _, e1, q_lacings _ _ _ , h1, ⟨hC.1, hC.2.1, h2.symm, wh_n (ne4_1 h2) rfl, hC.2.2.2.2⟩, u20, u21, u23, u24, u64, u65, u66, u67, u68, u69, u70⟩
set_option maxHeartbeats 2000000 in
theorem pT_23 {cap : Nat} (hcap : cap < 2 ^ 15) {ci : Nat → Int32} {cf : Nat → Nat → Int32} {mi : Nat → Int32} {mf : Nat → Nat → Int32} {ri : Nat → Int32} {rf : Nat → Nat → Int32} {kl kb kf ks : Nat → Int32} {kw : Nat → Nat → Int32} {mlM mbM mfM msM : Nat → Int32} {mwM : Nat → Nat → Int32} (hr : rlT cap ci cf mi mf ri rf kl kb kf ks kw mlM mbM mfM msM mwM) : ∃ o q, f_X10_bestChange (ci 18) (ci 19) (ci 20) (cf 19) (cf 20) (cf 21) (cf 22) (cf 23) (ci 34) (ci 35) (ci 36) (ci 32) (ci 33) (ci 66) (ci 67) (cf 49) (cf 50) (cf 51) (cf 53) (cf 54) (ci 0) = some o ∧ f_X12_bestChange (mi 0) (mi 1) (mi 2) (ri 2) (ri 3) (rf 0) (rf 1) (rf 2) (rf 4) (rf 5) (mf 1) (mf 5) (mf 6) (mf 7) (mf 8) (mi 13) (mi 18) = some q ∧ o.1 = q.1 ∧ rlT (cap + 1) (up ci [(0, o.2.2.2.2.2.2.2.2.2.2.2), (32, o.2.2.2.2.2.2.2.2.2.1), (33, o.2.2.2.2.2.2.2.2.2.2.1), (34, o.2.2.2.2.2.2.1), (35, o.2.2.2.2.2.2.2.1), (36, o.2.2.2.2.2.2.2.2.1)]) (up cf [(19, o.2.1), (20, o.2.2.1), (21, o.2.2.2.1), (22, o.2.2.2.2.1), (23, o.2.2.2.2.2.1)]) (up mi [(0, q.2.1), (1, q.2.2.1), (2, q.2.2.2.1), (13, q.2.2.2.2.2.2.2.2.1), (18, q.2.2.2.2.2.2.2.2.2)]) (up mf [(5, q.2.2.2.2.1), (6, q.2.2.2.2.2.1), (7, q.2.2.2.2.2.2.1), (8, q.2.2.2.2.2.2.2.1)]) ri rf kl kb kf ks kw mlM mbM mfM msM mwM := by
  obtain ⟨R, l, hC, hR, D, D2, hN, hM, hK⟩ := hr
  obtain ⟨d64, d65, d66, d67, d68, d69, d70, d71, dk, dw, db, hm, da, du, hb, hs, hbw, hbd⟩ := id D
  obtain ⟨r0, r1, r2, r3, r4, r5, r6, r7, ek, ew, eb, hm2, ea, eu, hb2, hs2, hbw2, hbd2⟩ := id D2
  have T : tR R (cf 49) (cf 50) (cf 51) (cf 53) (cf 54) := ⟨dk, dw, db, da, du⟩
  have T2 : tR R (rf 0) (rf 1) (rf 2) (rf 4) (rf 5) := ⟨ek, ew, eb, ea, eu⟩
  obtain ⟨⟨L, U, f, sd, V⟩, ⟨a18, a19, a20, a21, hwr⟩, hv, ⟨hL, hU, hdj, hsd, hVc⟩, hf9⟩ := id hN
  replace a18 : ci 18 = nI L := a18
  replace a19 : ci 19 = nI U := a19
  replace a20 : ci 20 = nI f := a20
  replace a21 : ci 21 = nI sd := a21
  replace hwr : rw_ (R 0 1) (cf 13) V := hwr
  replace hv : vR (R 0 1) (mf 1) L U f sd V := hv
  replace hL : L < 2 ^ R 0 1 := hL
  replace hU : U < 2 ^ R 0 1 := hU
  replace hdj : dj L U := hdj
  replace hsd : sd ≤ 65536 := hsd
  replace hVc : ∀ j, j < R 0 1 → V j ≤ cap := hVc
  replace hf9 : f ≤ 999 := hf9
  have hV : ∀ j, j < R 0 1 → V j < 2 ^ 20 := fun j hj => Nat.lt_of_le_of_lt (hVc j hj) (Nat.lt_trans hcap (by decide))
  have hf : f < 2 ^ 16 := Nat.lt_of_le_of_lt hf9 (by decide)
  have hq : qOK R cap (L, U, sd, V) := ⟨hL, hU, hdj, hsd, hVc⟩
  rw [a18, a19, a20, d66, d67, r2, r3]
  obtain ⟨o, q, e1, e2, h1, h2, h3, h5, h6⟩ := j_bestChange hR hL hU hdj hf T T2 hv (cf 19) (cf 20) (cf 21) (cf 22) (cf 23) (ci 34) (ci 35) (ci 36) (ci 32) (ci 33) (ci 0) (mi 0) (mi 1) (mi 2) (mf 5) (mf 6) (mf 7) (mf 8) (mi 13) (mi 18)
  exact ⟨o, q, e1, e2, h1.symm, R, l, ⟨hC.1, hC.2.1, h3, wh_n (ne4_z h6) h5, hC.2.2.2.2⟩, hR, D, D2, nowE_up (Nat.le_succ _) hN, memE_up (Nat.le_succ _) hM, mrkE_up (Nat.le_succ _) hK⟩
set_option maxHeartbeats 2000000 in
theorem pU_23 {ci : Nat → Int32} {cf : Nat → Nat → Int32} {mi : Nat → Int32} {mf : Nat → Nat → Int32} (hr : rlU ci cf mi mf) : ∃ o q, f_X10_bestChange (ci 18) (ci 19) (ci 20) (cf 19) (cf 20) (cf 21) (cf 22) (cf 23) (ci 34) (ci 35) (ci 36) (ci 32) (ci 33) (ci 66) (ci 67) (cf 49) (cf 50) (cf 51) (cf 53) (cf 54) (ci 0) = some o ∧ f_X12_bestChangeN (mi 0) (mi 1) (mi 2) = some q ∧ o.1 = q.1 ∧ rlU (up ci [(0, o.2.2.2.2.2.2.2.2.2.2.2), (32, o.2.2.2.2.2.2.2.2.2.1), (33, o.2.2.2.2.2.2.2.2.2.2.1), (34, o.2.2.2.2.2.2.1), (35, o.2.2.2.2.2.2.2.1), (36, o.2.2.2.2.2.2.2.2.1)]) (up cf [(19, o.2.1), (20, o.2.2.1), (21, o.2.2.2.1), (22, o.2.2.2.2.1), (23, o.2.2.2.2.2.1)]) (up mi [(0, q.2.1), (1, q.2.2.1), (2, q.2.2.2)]) mf := by
  obtain ⟨hC, u20, u21, u23, u24, u64, u65, u66, u67, u68, u69, u70⟩ := hr
  rw [u66, u67]
  obtain ⟨o, e1, h1, h2⟩ := n_bestChange (ci 18) (ci 19) (ci 20) (cf 19) (cf 20) (cf 21) (cf 22) (cf 23) (ci 34) (ci 35) (ci 36) (ci 32) (ci 33) (cf 49) (cf 50) (cf 51) (cf 53) (cf 54) (ci 0)
  exact ⟨o, _, e1, q_bestChange _ _ _ , h1, ⟨hC.1, hC.2.1, h2.symm, wh_n (ne4_1 h2) rfl, hC.2.2.2.2⟩, u20, u21, u23, u24, u64, u65, u66, u67, u68, u69, u70⟩
set_option maxHeartbeats 2000000 in
theorem pT_24 {cap : Nat} (hcap : cap < 2 ^ 15) {ci : Nat → Int32} {cf : Nat → Nat → Int32} {mi : Nat → Int32} {mf : Nat → Nat → Int32} {ri : Nat → Int32} {rf : Nat → Nat → Int32} {kl kb kf ks : Nat → Int32} {kw : Nat → Nat → Int32} {mlM mbM mfM msM : Nat → Int32} {mwM : Nat → Nat → Int32} (hr : rlT cap ci cf mi mf ri rf kl kb kf ks kw mlM mbM mfM msM mwM) : ∃ o q, f_X10_changeHarm (ci 18) (ci 19) (ci 20) (cf 19) (cf 20) (cf 21) (cf 22) (cf 23) (ci 34) (ci 35) (ci 36) (ci 32) (ci 33) (ci 66) (ci 67) (cf 49) (cf 50) (cf 51) (cf 53) (cf 54) (ci 0) = some o ∧ f_X12_changeHarm (mi 0) (mi 1) (mi 2) (ri 2) (ri 3) (rf 0) (rf 1) (rf 2) (rf 4) (rf 5) (mf 1) (mf 5) (mf 6) (mf 7) (mf 8) (mi 13) (mi 18) = some q ∧ o.1 = q.1 ∧ rlT (cap + 1) (up ci [(0, o.2.2.2.2.2.2.2.2.2.2.2), (32, o.2.2.2.2.2.2.2.2.2.1), (33, o.2.2.2.2.2.2.2.2.2.2.1), (34, o.2.2.2.2.2.2.1), (35, o.2.2.2.2.2.2.2.1), (36, o.2.2.2.2.2.2.2.2.1)]) (up cf [(19, o.2.1), (20, o.2.2.1), (21, o.2.2.2.1), (22, o.2.2.2.2.1), (23, o.2.2.2.2.2.1)]) (up mi [(0, q.2.1), (1, q.2.2.1), (2, q.2.2.2.1), (13, q.2.2.2.2.2.2.2.2.1), (18, q.2.2.2.2.2.2.2.2.2)]) (up mf [(5, q.2.2.2.2.1), (6, q.2.2.2.2.2.1), (7, q.2.2.2.2.2.2.1), (8, q.2.2.2.2.2.2.2.1)]) ri rf kl kb kf ks kw mlM mbM mfM msM mwM := by
  obtain ⟨R, l, hC, hR, D, D2, hN, hM, hK⟩ := hr
  obtain ⟨d64, d65, d66, d67, d68, d69, d70, d71, dk, dw, db, hm, da, du, hb, hs, hbw, hbd⟩ := id D
  obtain ⟨r0, r1, r2, r3, r4, r5, r6, r7, ek, ew, eb, hm2, ea, eu, hb2, hs2, hbw2, hbd2⟩ := id D2
  have T : tR R (cf 49) (cf 50) (cf 51) (cf 53) (cf 54) := ⟨dk, dw, db, da, du⟩
  have T2 : tR R (rf 0) (rf 1) (rf 2) (rf 4) (rf 5) := ⟨ek, ew, eb, ea, eu⟩
  obtain ⟨⟨L, U, f, sd, V⟩, ⟨a18, a19, a20, a21, hwr⟩, hv, ⟨hL, hU, hdj, hsd, hVc⟩, hf9⟩ := id hN
  replace a18 : ci 18 = nI L := a18
  replace a19 : ci 19 = nI U := a19
  replace a20 : ci 20 = nI f := a20
  replace a21 : ci 21 = nI sd := a21
  replace hwr : rw_ (R 0 1) (cf 13) V := hwr
  replace hv : vR (R 0 1) (mf 1) L U f sd V := hv
  replace hL : L < 2 ^ R 0 1 := hL
  replace hU : U < 2 ^ R 0 1 := hU
  replace hdj : dj L U := hdj
  replace hsd : sd ≤ 65536 := hsd
  replace hVc : ∀ j, j < R 0 1 → V j ≤ cap := hVc
  replace hf9 : f ≤ 999 := hf9
  have hV : ∀ j, j < R 0 1 → V j < 2 ^ 20 := fun j hj => Nat.lt_of_le_of_lt (hVc j hj) (Nat.lt_trans hcap (by decide))
  have hf : f < 2 ^ 16 := Nat.lt_of_le_of_lt hf9 (by decide)
  have hq : qOK R cap (L, U, sd, V) := ⟨hL, hU, hdj, hsd, hVc⟩
  rw [a18, a19, a20, d66, d67, r2, r3]
  obtain ⟨o, q, e1, e2, h1, h2, h3, h5, h6⟩ := j_changeHarm hR hL hU hdj hf T T2 hv (cf 19) (cf 20) (cf 21) (cf 22) (cf 23) (ci 34) (ci 35) (ci 36) (ci 32) (ci 33) (ci 0) (mi 0) (mi 1) (mi 2) (mf 5) (mf 6) (mf 7) (mf 8) (mi 13) (mi 18)
  exact ⟨o, q, e1, e2, h1.symm, R, l, ⟨hC.1, hC.2.1, h3, wh_n (ne4_z h6) h5, hC.2.2.2.2⟩, hR, D, D2, nowE_up (Nat.le_succ _) hN, memE_up (Nat.le_succ _) hM, mrkE_up (Nat.le_succ _) hK⟩
set_option maxHeartbeats 2000000 in
theorem pU_24 {ci : Nat → Int32} {cf : Nat → Nat → Int32} {mi : Nat → Int32} {mf : Nat → Nat → Int32} (hr : rlU ci cf mi mf) : ∃ o q, f_X10_changeHarm (ci 18) (ci 19) (ci 20) (cf 19) (cf 20) (cf 21) (cf 22) (cf 23) (ci 34) (ci 35) (ci 36) (ci 32) (ci 33) (ci 66) (ci 67) (cf 49) (cf 50) (cf 51) (cf 53) (cf 54) (ci 0) = some o ∧ f_X12_changeHarmN (mi 0) (mi 1) (mi 2) = some q ∧ o.1 = q.1 ∧ rlU (up ci [(0, o.2.2.2.2.2.2.2.2.2.2.2), (32, o.2.2.2.2.2.2.2.2.2.1), (33, o.2.2.2.2.2.2.2.2.2.2.1), (34, o.2.2.2.2.2.2.1), (35, o.2.2.2.2.2.2.2.1), (36, o.2.2.2.2.2.2.2.2.1)]) (up cf [(19, o.2.1), (20, o.2.2.1), (21, o.2.2.2.1), (22, o.2.2.2.2.1), (23, o.2.2.2.2.2.1)]) (up mi [(0, q.2.1), (1, q.2.2.1), (2, q.2.2.2)]) mf := by
  obtain ⟨hC, u20, u21, u23, u24, u64, u65, u66, u67, u68, u69, u70⟩ := hr
  rw [u66, u67]
  obtain ⟨o, e1, h1, h2⟩ := n_changeHarm (ci 18) (ci 19) (ci 20) (cf 19) (cf 20) (cf 21) (cf 22) (cf 23) (ci 34) (ci 35) (ci 36) (ci 32) (ci 33) (cf 49) (cf 50) (cf 51) (cf 53) (cf 54) (ci 0)
  exact ⟨o, _, e1, q_changeHarm _ _ _ , h1, ⟨hC.1, hC.2.1, h2.symm, wh_n (ne4_1 h2) rfl, hC.2.2.2.2⟩, u20, u21, u23, u24, u64, u65, u66, u67, u68, u69, u70⟩
set_option maxHeartbeats 2000000 in
theorem pT_25 {cap : Nat} (hcap : cap < 2 ^ 15) {ci : Nat → Int32} {cf : Nat → Nat → Int32} {mi : Nat → Int32} {mf : Nat → Nat → Int32} {ri : Nat → Int32} {rf : Nat → Nat → Int32} {kl kb kf ks : Nat → Int32} {kw : Nat → Nat → Int32} {mlM mbM mfM msM : Nat → Int32} {mwM : Nat → Nat → Int32} (hr : rlT cap ci cf mi mf ri rf kl kb kf ks kw mlM mbM mfM msM mwM) (x1 : Int32) : ∃ o q, f_X10_passes x1 (ci 18) (ci 20) (cf 24) (cf 25) (cf 26) (cf 27) (cf 28) (ci 37) (ci 38) (ci 39) (ci 66) (ci 67) (ci 69) (cf 49) (cf 50) (cf 51) (cf 53) (cf 54) (cf 57) (cf 58) (ci 0) = some o ∧ f_X12_passes x1 (mi 0) (mi 1) (mi 2) (ri 2) (ri 3) (ri 5) (rf 0) (rf 1) (rf 2) (rf 4) (rf 5) (rf 8) (rf 9) (mf 1) (mf 5) (mf 6) (mf 7) (mf 8) (mi 13) = some q ∧ o.1 = q.1 ∧ rlT (cap + 1) (up ci [(0, o.2.2.2.2.2.2.2.2.2), (37, o.2.2.2.2.2.2.1), (38, o.2.2.2.2.2.2.2.1), (39, o.2.2.2.2.2.2.2.2.1)]) (up cf [(24, o.2.1), (25, o.2.2.1), (26, o.2.2.2.1), (27, o.2.2.2.2.1), (28, o.2.2.2.2.2.1)]) (up mi [(0, q.2.1), (1, q.2.2.1), (2, q.2.2.2.1), (13, q.2.2.2.2.2.2.2.2)]) (up mf [(5, q.2.2.2.2.1), (6, q.2.2.2.2.2.1), (7, q.2.2.2.2.2.2.1), (8, q.2.2.2.2.2.2.2.1)]) ri rf kl kb kf ks kw mlM mbM mfM msM mwM := by
  obtain ⟨R, l, hC, hR, D, D2, hN, hM, hK⟩ := hr
  obtain ⟨d64, d65, d66, d67, d68, d69, d70, d71, dk, dw, db, hm, da, du, hb, hs, hbw, hbd⟩ := id D
  obtain ⟨r0, r1, r2, r3, r4, r5, r6, r7, ek, ew, eb, hm2, ea, eu, hb2, hs2, hbw2, hbd2⟩ := id D2
  have T : tR R (cf 49) (cf 50) (cf 51) (cf 53) (cf 54) := ⟨dk, dw, db, da, du⟩
  have T2 : tR R (rf 0) (rf 1) (rf 2) (rf 4) (rf 5) := ⟨ek, ew, eb, ea, eu⟩
  obtain ⟨⟨L, U, f, sd, V⟩, ⟨a18, a19, a20, a21, hwr⟩, hv, ⟨hL, hU, hdj, hsd, hVc⟩, hf9⟩ := id hN
  replace a18 : ci 18 = nI L := a18
  replace a19 : ci 19 = nI U := a19
  replace a20 : ci 20 = nI f := a20
  replace a21 : ci 21 = nI sd := a21
  replace hwr : rw_ (R 0 1) (cf 13) V := hwr
  replace hv : vR (R 0 1) (mf 1) L U f sd V := hv
  replace hL : L < 2 ^ R 0 1 := hL
  replace hU : U < 2 ^ R 0 1 := hU
  replace hdj : dj L U := hdj
  replace hsd : sd ≤ 65536 := hsd
  replace hVc : ∀ j, j < R 0 1 → V j ≤ cap := hVc
  replace hf9 : f ≤ 999 := hf9
  have hV : ∀ j, j < R 0 1 → V j < 2 ^ 20 := fun j hj => Nat.lt_of_le_of_lt (hVc j hj) (Nat.lt_trans hcap (by decide))
  have hf : f < 2 ^ 16 := Nat.lt_of_le_of_lt hf9 (by decide)
  have hq : qOK R cap (L, U, sd, V) := ⟨hL, hU, hdj, hsd, hVc⟩
  rw [a18, a20, d66, d67, d69, r2, r3, r5]
  obtain ⟨ans, t, ⟨w, co, de, sp, ha, be, al, si, e1⟩, wi, wa, de2, sp2, be2, e2⟩ := j_passes hR hL hf T T2 hv hbw hbd hbw2 hbd2 x1 (cf 24) (cf 25) (cf 26) (cf 27) (cf 28) (ci 37) (ci 38) (ci 39) (ci 0) (mi 0) (mi 1) (mi 2) (mf 5) (mf 6) (mf 7) (mf 8) (mi 13)
  have h4 : ¬ t = 4 := nt_passes _ _ _ _ _ _ _ _ _ _ _ _ _ _ _ _ _ _ _ _ _ _  _ e1
  exact ⟨_, _, e1, e2, rfl, R, l, ⟨hC.1, hC.2.1, rfl, wh_n h4 rfl, hC.2.2.2.2⟩, hR, D, D2, nowE_up (Nat.le_succ _) hN, memE_up (Nat.le_succ _) hM, mrkE_up (Nat.le_succ _) hK⟩
set_option maxHeartbeats 2000000 in
theorem pU_25 {ci : Nat → Int32} {cf : Nat → Nat → Int32} {mi : Nat → Int32} {mf : Nat → Nat → Int32} (hr : rlU ci cf mi mf) (x1 : Int32) : ∃ o q, f_X10_passes x1 (ci 18) (ci 20) (cf 24) (cf 25) (cf 26) (cf 27) (cf 28) (ci 37) (ci 38) (ci 39) (ci 66) (ci 67) (ci 69) (cf 49) (cf 50) (cf 51) (cf 53) (cf 54) (cf 57) (cf 58) (ci 0) = some o ∧ f_X12_passesN x1 (mi 0) (mi 1) (mi 2) = some q ∧ o.1 = q.1 ∧ rlU (up ci [(0, o.2.2.2.2.2.2.2.2.2), (37, o.2.2.2.2.2.2.1), (38, o.2.2.2.2.2.2.2.1), (39, o.2.2.2.2.2.2.2.2.1)]) (up cf [(24, o.2.1), (25, o.2.2.1), (26, o.2.2.2.1), (27, o.2.2.2.2.1), (28, o.2.2.2.2.2.1)]) (up mi [(0, q.2.1), (1, q.2.2.1), (2, q.2.2.2)]) mf := by
  obtain ⟨hC, u20, u21, u23, u24, u64, u65, u66, u67, u68, u69, u70⟩ := hr
  rw [u66, u67, u69]
  obtain ⟨o, e1, h1, h2⟩ := n_passes x1 (ci 18) (ci 20) (cf 24) (cf 25) (cf 26) (cf 27) (cf 28) (ci 37) (ci 38) (ci 39) (cf 49) (cf 50) (cf 51) (cf 53) (cf 54) (cf 57) (cf 58) (ci 0)
  exact ⟨o, _, e1, q_passes _ _ _ _ , h1, ⟨hC.1, hC.2.1, h2.symm, wh_n (ne4_1 h2) rfl, hC.2.2.2.2⟩, u20, u21, u23, u24, u64, u65, u66, u67, u68, u69, u70⟩
set_option maxHeartbeats 2000000 in
theorem pT_26 {cap : Nat} (hcap : cap < 2 ^ 15) {ci : Nat → Int32} {cf : Nat → Nat → Int32} {mi : Nat → Int32} {mf : Nat → Nat → Int32} {ri : Nat → Int32} {rf : Nat → Nat → Int32} {kl kb kf ks : Nat → Int32} {kw : Nat → Nat → Int32} {mlM mbM mfM msM : Nat → Int32} {mwM : Nat → Nat → Int32} (hr : rlT cap ci cf mi mf ri rf kl kb kf ks kw mlM mbM mfM msM mwM) (x1 : Int32) : ∃ o q, f_X10_stuck x1 (ci 18) (ci 20) (cf 24) (cf 25) (cf 26) (cf 27) (cf 28) (ci 37) (ci 38) (ci 39) (ci 66) (ci 67) (ci 69) (cf 49) (cf 50) (cf 51) (cf 53) (cf 54) (cf 57) (cf 58) (ci 0) = some o ∧ f_X12_stuck x1 (mi 0) (mi 1) (mi 2) (ri 2) (ri 3) (ri 5) (rf 0) (rf 1) (rf 2) (rf 4) (rf 5) (rf 8) (rf 9) (mf 1) (mf 5) (mf 6) (mf 7) (mf 8) (mi 13) = some q ∧ o.1 = q.1 ∧ rlT (cap + 1) (up ci [(0, o.2.2.2.2.2.2.2.2.2), (37, o.2.2.2.2.2.2.1), (38, o.2.2.2.2.2.2.2.1), (39, o.2.2.2.2.2.2.2.2.1)]) (up cf [(24, o.2.1), (25, o.2.2.1), (26, o.2.2.2.1), (27, o.2.2.2.2.1), (28, o.2.2.2.2.2.1)]) (up mi [(0, q.2.1), (1, q.2.2.1), (2, q.2.2.2.1), (13, q.2.2.2.2.2.2.2.2)]) (up mf [(5, q.2.2.2.2.1), (6, q.2.2.2.2.2.1), (7, q.2.2.2.2.2.2.1), (8, q.2.2.2.2.2.2.2.1)]) ri rf kl kb kf ks kw mlM mbM mfM msM mwM := by
  obtain ⟨R, l, hC, hR, D, D2, hN, hM, hK⟩ := hr
  obtain ⟨d64, d65, d66, d67, d68, d69, d70, d71, dk, dw, db, hm, da, du, hb, hs, hbw, hbd⟩ := id D
  obtain ⟨r0, r1, r2, r3, r4, r5, r6, r7, ek, ew, eb, hm2, ea, eu, hb2, hs2, hbw2, hbd2⟩ := id D2
  have T : tR R (cf 49) (cf 50) (cf 51) (cf 53) (cf 54) := ⟨dk, dw, db, da, du⟩
  have T2 : tR R (rf 0) (rf 1) (rf 2) (rf 4) (rf 5) := ⟨ek, ew, eb, ea, eu⟩
  obtain ⟨⟨L, U, f, sd, V⟩, ⟨a18, a19, a20, a21, hwr⟩, hv, ⟨hL, hU, hdj, hsd, hVc⟩, hf9⟩ := id hN
  replace a18 : ci 18 = nI L := a18
  replace a19 : ci 19 = nI U := a19
  replace a20 : ci 20 = nI f := a20
  replace a21 : ci 21 = nI sd := a21
  replace hwr : rw_ (R 0 1) (cf 13) V := hwr
  replace hv : vR (R 0 1) (mf 1) L U f sd V := hv
  replace hL : L < 2 ^ R 0 1 := hL
  replace hU : U < 2 ^ R 0 1 := hU
  replace hdj : dj L U := hdj
  replace hsd : sd ≤ 65536 := hsd
  replace hVc : ∀ j, j < R 0 1 → V j ≤ cap := hVc
  replace hf9 : f ≤ 999 := hf9
  have hV : ∀ j, j < R 0 1 → V j < 2 ^ 20 := fun j hj => Nat.lt_of_le_of_lt (hVc j hj) (Nat.lt_trans hcap (by decide))
  have hf : f < 2 ^ 16 := Nat.lt_of_le_of_lt hf9 (by decide)
  have hq : qOK R cap (L, U, sd, V) := ⟨hL, hU, hdj, hsd, hVc⟩
  rw [a18, a20, d66, d67, d69, r2, r3, r5]
  obtain ⟨ans, t, ⟨w, co, de, sp, ha, be, al, si, e1⟩, wi, wa, de2, sp2, be2, e2⟩ := j_stuck hR hL hf T T2 hv hbw hbd hbw2 hbd2 x1 (cf 24) (cf 25) (cf 26) (cf 27) (cf 28) (ci 37) (ci 38) (ci 39) (ci 0) (mi 0) (mi 1) (mi 2) (mf 5) (mf 6) (mf 7) (mf 8) (mi 13)
  have h4 : ¬ t = 4 := nt_stuck _ _ _ _ _ _ _ _ _ _ _ _ _ _ _ _ _ _ _ _ _ _  _ e1
  exact ⟨_, _, e1, e2, rfl, R, l, ⟨hC.1, hC.2.1, rfl, wh_n h4 rfl, hC.2.2.2.2⟩, hR, D, D2, nowE_up (Nat.le_succ _) hN, memE_up (Nat.le_succ _) hM, mrkE_up (Nat.le_succ _) hK⟩
set_option maxHeartbeats 2000000 in
theorem pU_26 {ci : Nat → Int32} {cf : Nat → Nat → Int32} {mi : Nat → Int32} {mf : Nat → Nat → Int32} (hr : rlU ci cf mi mf) (x1 : Int32) : ∃ o q, f_X10_stuck x1 (ci 18) (ci 20) (cf 24) (cf 25) (cf 26) (cf 27) (cf 28) (ci 37) (ci 38) (ci 39) (ci 66) (ci 67) (ci 69) (cf 49) (cf 50) (cf 51) (cf 53) (cf 54) (cf 57) (cf 58) (ci 0) = some o ∧ f_X12_stuckN x1 (mi 0) (mi 1) (mi 2) = some q ∧ o.1 = q.1 ∧ rlU (up ci [(0, o.2.2.2.2.2.2.2.2.2), (37, o.2.2.2.2.2.2.1), (38, o.2.2.2.2.2.2.2.1), (39, o.2.2.2.2.2.2.2.2.1)]) (up cf [(24, o.2.1), (25, o.2.2.1), (26, o.2.2.2.1), (27, o.2.2.2.2.1), (28, o.2.2.2.2.2.1)]) (up mi [(0, q.2.1), (1, q.2.2.1), (2, q.2.2.2)]) mf := by
  obtain ⟨hC, u20, u21, u23, u24, u64, u65, u66, u67, u68, u69, u70⟩ := hr
  rw [u66, u67, u69]
  obtain ⟨o, e1, h1, h2⟩ := n_stuck x1 (ci 18) (ci 20) (cf 24) (cf 25) (cf 26) (cf 27) (cf 28) (ci 37) (ci 38) (ci 39) (cf 49) (cf 50) (cf 51) (cf 53) (cf 54) (cf 57) (cf 58) (ci 0)
  exact ⟨o, _, e1, q_stuck _ _ _ _ , h1, ⟨hC.1, hC.2.1, h2.symm, wh_n (ne4_1 h2) rfl, hC.2.2.2.2⟩, u20, u21, u23, u24, u64, u65, u66, u67, u68, u69, u70⟩
set_option maxHeartbeats 2000000 in
theorem pT_27 {cap : Nat} (hcap : cap < 2 ^ 15) {ci : Nat → Int32} {cf : Nat → Nat → Int32} {mi : Nat → Int32} {mf : Nat → Nat → Int32} {ri : Nat → Int32} {rf : Nat → Nat → Int32} {kl kb kf ks : Nat → Int32} {kw : Nat → Nat → Int32} {mlM mbM mfM msM : Nat → Int32} {mwM : Nat → Nat → Int32} (hr : rlT cap ci cf mi mf ri rf kl kb kf ks kw mlM mbM mfM msM mwM) (x1 : Int32) : ∃ o q, f_X10_letThrough x1 (ci 18) (ci 20) (cf 24) (cf 25) (cf 26) (cf 27) (cf 28) (ci 37) (ci 38) (ci 39) (ci 66) (ci 67) (ci 69) (cf 49) (cf 50) (cf 51) (cf 53) (cf 54) (cf 57) (cf 58) (ci 0) = some o ∧ f_X12_letThrough x1 (mi 0) (mi 1) (mi 2) (ri 2) (ri 3) (ri 5) (rf 0) (rf 1) (rf 2) (rf 4) (rf 5) (rf 8) (rf 9) (mf 1) (mf 5) (mf 6) (mf 7) (mf 8) (mi 13) = some q ∧ o.1 = q.1 ∧ rlT (cap + 1) (up ci [(0, o.2.2.2.2.2.2.2.2.2), (37, o.2.2.2.2.2.2.1), (38, o.2.2.2.2.2.2.2.1), (39, o.2.2.2.2.2.2.2.2.1)]) (up cf [(24, o.2.1), (25, o.2.2.1), (26, o.2.2.2.1), (27, o.2.2.2.2.1), (28, o.2.2.2.2.2.1)]) (up mi [(0, q.2.1), (1, q.2.2.1), (2, q.2.2.2.1), (13, q.2.2.2.2.2.2.2.2)]) (up mf [(5, q.2.2.2.2.1), (6, q.2.2.2.2.2.1), (7, q.2.2.2.2.2.2.1), (8, q.2.2.2.2.2.2.2.1)]) ri rf kl kb kf ks kw mlM mbM mfM msM mwM := by
  obtain ⟨R, l, hC, hR, D, D2, hN, hM, hK⟩ := hr
  obtain ⟨d64, d65, d66, d67, d68, d69, d70, d71, dk, dw, db, hm, da, du, hb, hs, hbw, hbd⟩ := id D
  obtain ⟨r0, r1, r2, r3, r4, r5, r6, r7, ek, ew, eb, hm2, ea, eu, hb2, hs2, hbw2, hbd2⟩ := id D2
  have T : tR R (cf 49) (cf 50) (cf 51) (cf 53) (cf 54) := ⟨dk, dw, db, da, du⟩
  have T2 : tR R (rf 0) (rf 1) (rf 2) (rf 4) (rf 5) := ⟨ek, ew, eb, ea, eu⟩
  obtain ⟨⟨L, U, f, sd, V⟩, ⟨a18, a19, a20, a21, hwr⟩, hv, ⟨hL, hU, hdj, hsd, hVc⟩, hf9⟩ := id hN
  replace a18 : ci 18 = nI L := a18
  replace a19 : ci 19 = nI U := a19
  replace a20 : ci 20 = nI f := a20
  replace a21 : ci 21 = nI sd := a21
  replace hwr : rw_ (R 0 1) (cf 13) V := hwr
  replace hv : vR (R 0 1) (mf 1) L U f sd V := hv
  replace hL : L < 2 ^ R 0 1 := hL
  replace hU : U < 2 ^ R 0 1 := hU
  replace hdj : dj L U := hdj
  replace hsd : sd ≤ 65536 := hsd
  replace hVc : ∀ j, j < R 0 1 → V j ≤ cap := hVc
  replace hf9 : f ≤ 999 := hf9
  have hV : ∀ j, j < R 0 1 → V j < 2 ^ 20 := fun j hj => Nat.lt_of_le_of_lt (hVc j hj) (Nat.lt_trans hcap (by decide))
  have hf : f < 2 ^ 16 := Nat.lt_of_le_of_lt hf9 (by decide)
  have hq : qOK R cap (L, U, sd, V) := ⟨hL, hU, hdj, hsd, hVc⟩
  rw [a18, a20, d66, d67, d69, r2, r3, r5]
  obtain ⟨ans, t, ⟨w, co, de, sp, ha, be, al, si, e1⟩, wi, wa, de2, sp2, be2, e2⟩ := j_letThrough hR hL hf T T2 hv hbw hbd hbw2 hbd2 x1 (cf 24) (cf 25) (cf 26) (cf 27) (cf 28) (ci 37) (ci 38) (ci 39) (ci 0) (mi 0) (mi 1) (mi 2) (mf 5) (mf 6) (mf 7) (mf 8) (mi 13)
  have h4 : ¬ t = 4 := nt_letThrough _ _ _ _ _ _ _ _ _ _ _ _ _ _ _ _ _ _ _ _ _ _  _ e1
  exact ⟨_, _, e1, e2, rfl, R, l, ⟨hC.1, hC.2.1, rfl, wh_n h4 rfl, hC.2.2.2.2⟩, hR, D, D2, nowE_up (Nat.le_succ _) hN, memE_up (Nat.le_succ _) hM, mrkE_up (Nat.le_succ _) hK⟩
set_option maxHeartbeats 2000000 in
theorem pU_27 {ci : Nat → Int32} {cf : Nat → Nat → Int32} {mi : Nat → Int32} {mf : Nat → Nat → Int32} (hr : rlU ci cf mi mf) (x1 : Int32) : ∃ o q, f_X10_letThrough x1 (ci 18) (ci 20) (cf 24) (cf 25) (cf 26) (cf 27) (cf 28) (ci 37) (ci 38) (ci 39) (ci 66) (ci 67) (ci 69) (cf 49) (cf 50) (cf 51) (cf 53) (cf 54) (cf 57) (cf 58) (ci 0) = some o ∧ f_X12_letThroughN x1 (mi 0) (mi 1) (mi 2) = some q ∧ o.1 = q.1 ∧ rlU (up ci [(0, o.2.2.2.2.2.2.2.2.2), (37, o.2.2.2.2.2.2.1), (38, o.2.2.2.2.2.2.2.1), (39, o.2.2.2.2.2.2.2.2.1)]) (up cf [(24, o.2.1), (25, o.2.2.1), (26, o.2.2.2.1), (27, o.2.2.2.2.1), (28, o.2.2.2.2.2.1)]) (up mi [(0, q.2.1), (1, q.2.2.1), (2, q.2.2.2)]) mf := by
  obtain ⟨hC, u20, u21, u23, u24, u64, u65, u66, u67, u68, u69, u70⟩ := hr
  rw [u66, u67, u69]
  obtain ⟨o, e1, h1, h2⟩ := n_letThrough x1 (ci 18) (ci 20) (cf 24) (cf 25) (cf 26) (cf 27) (cf 28) (ci 37) (ci 38) (ci 39) (cf 49) (cf 50) (cf 51) (cf 53) (cf 54) (cf 57) (cf 58) (ci 0)
  exact ⟨o, _, e1, q_letThrough _ _ _ _ , h1, ⟨hC.1, hC.2.1, h2.symm, wh_n (ne4_1 h2) rfl, hC.2.2.2.2⟩, u20, u21, u23, u24, u64, u65, u66, u67, u68, u69, u70⟩
set_option maxHeartbeats 2000000 in
theorem pT_28 {cap : Nat} (hcap : cap < 2 ^ 15) {ci : Nat → Int32} {cf : Nat → Nat → Int32} {mi : Nat → Int32} {mf : Nat → Nat → Int32} {ri : Nat → Int32} {rf : Nat → Nat → Int32} {kl kb kf ks : Nat → Int32} {kw : Nat → Nat → Int32} {mlM mbM mfM msM : Nat → Int32} {mwM : Nat → Nat → Int32} (hr : rlT cap ci cf mi mf ri rf kl kb kf ks kw mlM mbM mfM msM mwM) : ∃ o q, f_X10_bestBoat (ci 18) (ci 20) (cf 24) (cf 25) (cf 26) (cf 27) (cf 28) (ci 37) (ci 38) (ci 39) (ci 66) (ci 67) (ci 69) (cf 49) (cf 50) (cf 51) (cf 53) (cf 54) (cf 57) (cf 58) (ci 0) = some o ∧ f_X12_bestBoat (mi 0) (mi 1) (mi 2) (ri 2) (ri 3) (ri 5) (rf 0) (rf 1) (rf 2) (rf 4) (rf 5) (rf 8) (rf 9) (mf 1) (mf 5) (mf 6) (mf 7) (mf 8) (mi 13) = some q ∧ o.1 = q.1 ∧ rlT (cap + 1) (up ci [(0, o.2.2.2.2.2.2.2.2.2), (37, o.2.2.2.2.2.2.1), (38, o.2.2.2.2.2.2.2.1), (39, o.2.2.2.2.2.2.2.2.1)]) (up cf [(24, o.2.1), (25, o.2.2.1), (26, o.2.2.2.1), (27, o.2.2.2.2.1), (28, o.2.2.2.2.2.1)]) (up mi [(0, q.2.1), (1, q.2.2.1), (2, q.2.2.2.1), (13, q.2.2.2.2.2.2.2.2)]) (up mf [(5, q.2.2.2.2.1), (6, q.2.2.2.2.2.1), (7, q.2.2.2.2.2.2.1), (8, q.2.2.2.2.2.2.2.1)]) ri rf kl kb kf ks kw mlM mbM mfM msM mwM := by
  obtain ⟨R, l, hC, hR, D, D2, hN, hM, hK⟩ := hr
  obtain ⟨d64, d65, d66, d67, d68, d69, d70, d71, dk, dw, db, hm, da, du, hb, hs, hbw, hbd⟩ := id D
  obtain ⟨r0, r1, r2, r3, r4, r5, r6, r7, ek, ew, eb, hm2, ea, eu, hb2, hs2, hbw2, hbd2⟩ := id D2
  have T : tR R (cf 49) (cf 50) (cf 51) (cf 53) (cf 54) := ⟨dk, dw, db, da, du⟩
  have T2 : tR R (rf 0) (rf 1) (rf 2) (rf 4) (rf 5) := ⟨ek, ew, eb, ea, eu⟩
  obtain ⟨⟨L, U, f, sd, V⟩, ⟨a18, a19, a20, a21, hwr⟩, hv, ⟨hL, hU, hdj, hsd, hVc⟩, hf9⟩ := id hN
  replace a18 : ci 18 = nI L := a18
  replace a19 : ci 19 = nI U := a19
  replace a20 : ci 20 = nI f := a20
  replace a21 : ci 21 = nI sd := a21
  replace hwr : rw_ (R 0 1) (cf 13) V := hwr
  replace hv : vR (R 0 1) (mf 1) L U f sd V := hv
  replace hL : L < 2 ^ R 0 1 := hL
  replace hU : U < 2 ^ R 0 1 := hU
  replace hdj : dj L U := hdj
  replace hsd : sd ≤ 65536 := hsd
  replace hVc : ∀ j, j < R 0 1 → V j ≤ cap := hVc
  replace hf9 : f ≤ 999 := hf9
  have hV : ∀ j, j < R 0 1 → V j < 2 ^ 20 := fun j hj => Nat.lt_of_le_of_lt (hVc j hj) (Nat.lt_trans hcap (by decide))
  have hf : f < 2 ^ 16 := Nat.lt_of_le_of_lt hf9 (by decide)
  have hq : qOK R cap (L, U, sd, V) := ⟨hL, hU, hdj, hsd, hVc⟩
  rw [a18, a20, d66, d67, d69, r2, r3, r5]
  obtain ⟨ans, t, ⟨w, co, de, sp, ha, be, al, si, e1⟩, wi, wa, de2, sp2, be2, e2⟩ := j_bestBoat hR hL hf T T2 hv hbw hbd hbw2 hbd2 (cf 24) (cf 25) (cf 26) (cf 27) (cf 28) (ci 37) (ci 38) (ci 39) (ci 0) (mi 0) (mi 1) (mi 2) (mf 5) (mf 6) (mf 7) (mf 8) (mi 13)
  have h4 : ¬ t = 4 := nt_bestBoat _ _ _ _ _ _ _ _ _ _ _ _ _ _ _ _ _ _ _ _ _  _ e1
  exact ⟨_, _, e1, e2, rfl, R, l, ⟨hC.1, hC.2.1, rfl, wh_n h4 rfl, hC.2.2.2.2⟩, hR, D, D2, nowE_up (Nat.le_succ _) hN, memE_up (Nat.le_succ _) hM, mrkE_up (Nat.le_succ _) hK⟩
set_option maxHeartbeats 2000000 in
theorem pU_28 {ci : Nat → Int32} {cf : Nat → Nat → Int32} {mi : Nat → Int32} {mf : Nat → Nat → Int32} (hr : rlU ci cf mi mf) : ∃ o q, f_X10_bestBoat (ci 18) (ci 20) (cf 24) (cf 25) (cf 26) (cf 27) (cf 28) (ci 37) (ci 38) (ci 39) (ci 66) (ci 67) (ci 69) (cf 49) (cf 50) (cf 51) (cf 53) (cf 54) (cf 57) (cf 58) (ci 0) = some o ∧ f_X12_bestBoatN (mi 0) (mi 1) (mi 2) = some q ∧ o.1 = q.1 ∧ rlU (up ci [(0, o.2.2.2.2.2.2.2.2.2), (37, o.2.2.2.2.2.2.1), (38, o.2.2.2.2.2.2.2.1), (39, o.2.2.2.2.2.2.2.2.1)]) (up cf [(24, o.2.1), (25, o.2.2.1), (26, o.2.2.2.1), (27, o.2.2.2.2.1), (28, o.2.2.2.2.2.1)]) (up mi [(0, q.2.1), (1, q.2.2.1), (2, q.2.2.2)]) mf := by
  obtain ⟨hC, u20, u21, u23, u24, u64, u65, u66, u67, u68, u69, u70⟩ := hr
  rw [u66, u67, u69]
  obtain ⟨o, e1, h1, h2⟩ := n_bestBoat (ci 18) (ci 20) (cf 24) (cf 25) (cf 26) (cf 27) (cf 28) (ci 37) (ci 38) (ci 39) (cf 49) (cf 50) (cf 51) (cf 53) (cf 54) (cf 57) (cf 58) (ci 0)
  exact ⟨o, _, e1, q_bestBoat _ _ _ , h1, ⟨hC.1, hC.2.1, h2.symm, wh_n (ne4_1 h2) rfl, hC.2.2.2.2⟩, u20, u21, u23, u24, u64, u65, u66, u67, u68, u69, u70⟩
