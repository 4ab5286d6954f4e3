/-! one call, both sides: what holds again -/
theorem nt_seed (p1 se re tr : Int32) : nt4 (f_X10_seed p1 se re tr) (fun o => o.2.2) := by
  unfold f_X10_seed f_X10_denied f_X10_granted
  repeat' (first | ((with_reducible apply nt4_s); first | exact (show ¬ (0 : Int32) = 4 by decide) | exact (show ¬ (1 : Int32) = 4 by decide) | exact (show ¬ (2 : Int32) = 4 by decide) | exact (show ¬ (5 : Int32) = 4 by decide)) | (with_reducible apply nt4_ite) | (with_reducible apply nt4_gd) | (with_reducible apply nt4_nm) | (with_reducible apply nt4_bs) | ((with_reducible apply nt4_bind); intro _))
set_option maxHeartbeats 2000000 in
theorem pT_0 {cap : Nat} (hcap : cap < 2 ^ 15) {ci : Nat → Int32} {cf : Nat → Nat → Int32} {mi : Nat → Int32} {mf : Nat → Nat → Int32} {ri : Nat → Int32} {rf : Nat → Nat → Int32} {kl kb kf ks : Nat → Int32} {kw : Nat → Nat → Int32} {mlM mbM mfM msM : Nat → Int32} {mwM : Nat → Nat → Int32} (hr : rlT cap ci cf mi mf ri rf kl kb kf ks kw mlM mbM mfM msM mwM) (x1 x2 x3 x4 x5 : Int32) : ∃ o q, f_X10_feed x1 x2 x3 x4 x5 (cf 0) (ci 1) = some o ∧ f_X12_feed x1 x2 x3 x4 x5 (mi 0) (mf 0) (mi 3) = some q ∧ o.1 = q.1 ∧ rlT (cap + 1) (up ci [(1, o.2.2)]) (up cf [(0, o.2.1)]) (up mi [(0, q.2.1), (3, q.2.2.2)]) (up mf [(0, q.2.2.1)]) ri rf kl kb kf ks kw mlM mbM mfM msM mwM := by
  obtain ⟨R, l, hC, hR, D, D2, hN, hM, hK⟩ := hr
  obtain ⟨d64, d65, d66, d67, d68, d69, d70, d71, dk, dw, db, hm, da, du, hb, hs, hbw, hbd⟩ := id D
  obtain ⟨r0, r1, r2, r3, r4, r5, r6, r7, ek, ew, eb, hm2, ea, eu, hb2, hs2, hbw2, hbd2⟩ := id D2
  have T : tR R (cf 49) (cf 50) (cf 51) (cf 53) (cf 54) := ⟨dk, dw, db, da, du⟩
  have T2 : tR R (rf 0) (rf 1) (rf 2) (rf 4) (rf 5) := ⟨ek, ew, eb, ea, eu⟩
  obtain ⟨o, q, e1, e2, h1, h2, h3⟩ := j_feed x1 x2 x3 x4 x5 (mi 0) hC.1
  exact ⟨o, q, e1, e2, h1.symm, R, l, ⟨h3, hC.2.1, hC.2.2.1, hC.2.2.2.1, hC.2.2.2.2⟩, hR, D, D2, nowE_up (Nat.le_succ _) hN, memE_up (Nat.le_succ _) hM, mrkE_up (Nat.le_succ _) hK⟩
set_option maxHeartbeats 2000000 in
theorem pU_0 {ci : Nat → Int32} {cf : Nat → Nat → Int32} {mi : Nat → Int32} {mf : Nat → Nat → Int32} (hr : rlU ci cf mi mf) (x1 x2 x3 x4 x5 : Int32) : ∃ o q, f_X10_feed x1 x2 x3 x4 x5 (cf 0) (ci 1) = some o ∧ f_X12_feed x1 x2 x3 x4 x5 (mi 0) (mf 0) (mi 3) = some q ∧ o.1 = q.1 ∧ rlU (up ci [(1, o.2.2)]) (up cf [(0, o.2.1)]) (up mi [(0, q.2.1), (3, q.2.2.2)]) (up mf [(0, q.2.2.1)]) := by
  obtain ⟨hC, u20, u21, u23, u24, u64, u65, u66, u67, u68, u69, u70⟩ := hr
  obtain ⟨o, q, e1, e2, h1, h2, h3⟩ := j_feed x1 x2 x3 x4 x5 (mi 0) hC.1
  exact ⟨o, q, e1, e2, h1.symm, ⟨h3, hC.2.1, hC.2.2.1, hC.2.2.2.1, hC.2.2.2.2⟩, u20, u21, u23, u24, u64, u65, u66, u67, u68, u69, u70⟩
set_option maxHeartbeats 2000000 in
theorem pT_2 {cap : Nat} (hcap : cap < 2 ^ 15) {ci : Nat → Int32} {cf : Nat → Nat → Int32} {mi : Nat → Int32} {mf : Nat → Nat → Int32} {ri : Nat → Int32} {rf : Nat → Nat → Int32} {kl kb kf ks : Nat → Int32} {kw : Nat → Nat → Int32} {mlM mbM mfM msM : Nat → Int32} {mwM : Nat → Nat → Int32} (hr : rlT cap ci cf mi mf ri rf kl kb kf ks kw mlM mbM mfM msM mwM) : ∃ o q, f_X10_fault (ci 2) = some o ∧ f_X12_fault (mi 0) (mi 9) = some q ∧ o = q.1 ∧ rlT (cap + 1) ci cf (up mi [(0, q.2)]) mf ri rf kl kb kf ks kw mlM mbM mfM msM mwM := by
  obtain ⟨R, l, hC, hR, D, D2, hN, hM, hK⟩ := hr
  obtain ⟨d64, d65, d66, d67, d68, d69, d70, d71, dk, dw, db, hm, da, du, hb, hs, hbw, hbd⟩ := id D
  obtain ⟨r0, r1, r2, r3, r4, r5, r6, r7, ek, ew, eb, hm2, ea, eu, hb2, hs2, hbw2, hbd2⟩ := id D2
  have T : tR R (cf 49) (cf 50) (cf 51) (cf 53) (cf 54) := ⟨dk, dw, db, da, du⟩
  have T2 : tR R (rf 0) (rf 1) (rf 2) (rf 4) (rf 5) := ⟨ek, ew, eb, ea, eu⟩
  exact ⟨_, _, rfl, rfl, hC.2.1, R, l, ⟨hC.1, hC.2.1, hC.2.2.1, hC.2.2.2.1, hC.2.2.2.2⟩, hR, D, D2, nowE_up (Nat.le_succ _) hN, memE_up (Nat.le_succ _) hM, mrkE_up (Nat.le_succ _) hK⟩
set_option maxHeartbeats 2000000 in
theorem pU_2 {ci : Nat → Int32} {cf : Nat → Nat → Int32} {mi : Nat → Int32} {mf : Nat → Nat → Int32} (hr : rlU ci cf mi mf) : ∃ o q, f_X10_fault (ci 2) = some o ∧ f_X12_fault (mi 0) (mi 9) = some q ∧ o = q.1 ∧ rlU ci cf (up mi [(0, q.2)]) mf := by
  obtain ⟨hC, u20, u21, u23, u24, u64, u65, u66, u67, u68, u69, u70⟩ := hr
  exact ⟨_, _, rfl, rfl, hC.2.1, ⟨hC.1, hC.2.1, hC.2.2.1, hC.2.2.2.1, hC.2.2.2.2⟩, u20, u21, u23, u24, u64, u65, u66, u67, u68, u69, u70⟩
set_option maxHeartbeats 2000000 in
theorem pT_3 {cap : Nat} (hcap : cap < 2 ^ 15) {ci : Nat → Int32} {cf : Nat → Nat → Int32} {mi : Nat → Int32} {mf : Nat → Nat → Int32} {ri : Nat → Int32} {rf : Nat → Nat → Int32} {kl kb kf ks : Nat → Int32} {kw : Nat → Nat → Int32} {mlM mbM mfM msM : Nat → Int32} {mwM : Nat → Nat → Int32} (hr : rlT cap ci cf mi mf ri rf kl kb kf ks kw mlM mbM mfM msM mwM) : ∃ o q, f_X10_where (ci 3) (ci 0) = some o ∧ f_X12_where (mi 0) (mi 2) = some q ∧ o = q.1 ∧ rlT (cap + 1) ci cf (up mi [(0, q.2)]) mf ri rf kl kb kf ks kw mlM mbM mfM msM mwM := by
  obtain ⟨R, l, hC, hR, D, D2, hN, hM, hK⟩ := hr
  obtain ⟨d64, d65, d66, d67, d68, d69, d70, d71, dk, dw, db, hm, da, du, hb, hs, hbw, hbd⟩ := id D
  obtain ⟨r0, r1, r2, r3, r4, r5, r6, r7, ek, ew, eb, hm2, ea, eu, hb2, hs2, hbw2, hbd2⟩ := id D2
  have T : tR R (cf 49) (cf 50) (cf 51) (cf 53) (cf 54) := ⟨dk, dw, db, da, du⟩
  have T2 : tR R (rf 0) (rf 1) (rf 2) (rf 4) (rf 5) := ⟨ek, ew, eb, ea, eu⟩
  have e : f_X10_where (ci 3) (ci 0) = some (mi 2) := by
    rw [hC.2.2.2.1]; unfold f_X10_where; by_cases h : ci 0 = 4 <;> simp [h]
  exact ⟨_, _, e, rfl, rfl, R, l, ⟨hC.1, hC.2.1, hC.2.2.1, hC.2.2.2.1, hC.2.2.2.2⟩, hR, D, D2, nowE_up (Nat.le_succ _) hN, memE_up (Nat.le_succ _) hM, mrkE_up (Nat.le_succ _) hK⟩
set_option maxHeartbeats 2000000 in
theorem pU_3 {ci : Nat → Int32} {cf : Nat → Nat → Int32} {mi : Nat → Int32} {mf : Nat → Nat → Int32} (hr : rlU ci cf mi mf) : ∃ o q, f_X10_where (ci 3) (ci 0) = some o ∧ f_X12_where (mi 0) (mi 2) = some q ∧ o = q.1 ∧ rlU ci cf (up mi [(0, q.2)]) mf := by
  obtain ⟨hC, u20, u21, u23, u24, u64, u65, u66, u67, u68, u69, u70⟩ := hr
  have e : f_X10_where (ci 3) (ci 0) = some (mi 2) := by
    rw [hC.2.2.2.1]; unfold f_X10_where; by_cases h : ci 0 = 4 <;> simp [h]
  exact ⟨_, _, e, rfl, rfl, ⟨hC.1, hC.2.1, hC.2.2.1, hC.2.2.2.1, hC.2.2.2.2⟩, u20, u21, u23, u24, u64, u65, u66, u67, u68, u69, u70⟩
set_option maxHeartbeats 2000000 in
theorem pT_4 {cap : Nat} (hcap : cap < 2 ^ 15) {ci : Nat → Int32} {cf : Nat → Nat → Int32} {mi : Nat → Int32} {mf : Nat → Nat → Int32} {ri : Nat → Int32} {rf : Nat → Nat → Int32} {kl kb kf ks : Nat → Int32} {kw : Nat → Nat → Int32} {mlM mbM mfM msM : Nat → Int32} {mwM : Nat → Nat → Int32} (hr : rlT cap ci cf mi mf ri rf kl kb kf ks kw mlM mbM mfM msM mwM) (x1 x2 : Int32) : ∃ o q, f_X10_reach x1 x2 (ci 18) (ci 20) (cf 14) (cf 15) (cf 16) (cf 17) (cf 18) (ci 25) (ci 26) (ci 27) (ci 66) (ci 67) (cf 49) (cf 50) (cf 51) (cf 53) (cf 54) (ci 0) = some o ∧ f_X12_reach x1 x2 (mi 0) (mi 1) (mi 2) (ri 2) (ri 3) (rf 0) (rf 1) (rf 2) (rf 4) (rf 5) (mf 1) (mf 5) (mf 6) (mf 7) (mf 8) (mi 13) = some q ∧ o.1 = q.1 ∧ rlT (cap + 1) (up ci [(0, o.2.2.2.2.2.2.2.2.2), (25, o.2.2.2.2.2.2.1), (26, o.2.2.2.2.2.2.2.1), (27, o.2.2.2.2.2.2.2.2.1)]) (up cf [(14, o.2.1), (15, o.2.2.1), (16, o.2.2.2.1), (17, o.2.2.2.2.1), (18, o.2.2.2.2.2.1)]) (up mi [(0, q.2.1), (1, q.2.2.1), (2, q.2.2.2.1), (13, q.2.2.2.2.2.2.2.2)]) (up mf [(5, q.2.2.2.2.1), (6, q.2.2.2.2.2.1), (7, q.2.2.2.2.2.2.1), (8, q.2.2.2.2.2.2.2.1)]) ri rf kl kb kf ks kw mlM mbM mfM msM mwM := by
  obtain ⟨R, l, hC, hR, D, D2, hN, hM, hK⟩ := hr
  obtain ⟨d64, d65, d66, d67, d68, d69, d70, d71, dk, dw, db, hm, da, du, hb, hs, hbw, hbd⟩ := id D
  obtain ⟨r0, r1, r2, r3, r4, r5, r6, r7, ek, ew, eb, hm2, ea, eu, hb2, hs2, hbw2, hbd2⟩ := id D2
  have T : tR R (cf 49) (cf 50) (cf 51) (cf 53) (cf 54) := ⟨dk, dw, db, da, du⟩
  have T2 : tR R (rf 0) (rf 1) (rf 2) (rf 4) (rf 5) := ⟨ek, ew, eb, ea, eu⟩
  obtain ⟨⟨L, U, f, sd, V⟩, ⟨a18, a19, a20, a21, hwr⟩, hv, ⟨hL, hU, hdj, hsd, hVc⟩, hf9⟩ := id hN
  replace a18 : ci 18 = nI L := a18
  replace a19 : ci 19 = nI U := a19
  replace a20 : ci 20 = nI f := a20
  replace a21 : ci 21 = nI sd := a21
  replace hwr : rw_ (R 0 1) (cf 13) V := hwr
  replace hv : vR (R 0 1) (mf 1) L U f sd V := hv
  replace hL : L < 2 ^ R 0 1 := hL
  replace hU : U < 2 ^ R 0 1 := hU
  replace hdj : dj L U := hdj
  replace hsd : sd ≤ 65536 := hsd
  replace hVc : ∀ j, j < R 0 1 → V j ≤ cap := hVc
  replace hf9 : f ≤ 999 := hf9
  have hV : ∀ j, j < R 0 1 → V j < 2 ^ 20 := fun j hj => Nat.lt_of_le_of_lt (hVc j hj) (Nat.lt_trans hcap (by decide))
  have hf : f < 2 ^ 16 := Nat.lt_of_le_of_lt hf9 (by decide)
  have hq : qOK R cap (L, U, sd, V) := ⟨hL, hU, hdj, hsd, hVc⟩
  rw [a18, a20, d66, d67, r2, r3]
  obtain ⟨ans, t, ⟨w, co, de, sp, ha, be, al, si, e1⟩, wi, wa, de2, sp2, be2, e2⟩ := j_reach hR hL hf T T2 hv x1 x2 (cf 14) (cf 15) (cf 16) (cf 17) (cf 18) (ci 25) (ci 26) (ci 27) (ci 0) (mi 0) (mi 1) (mi 2) (mf 5) (mf 6) (mf 7) (mf 8) (mi 13)
  have h4 : ¬ t = 4 := nt_reach _ _ _ _ _ _ _ _ _ _ _ _ _ _ _ _ _ _ _ _  _ e1
  exact ⟨_, _, e1, e2, rfl, R, l, ⟨hC.1, hC.2.1, rfl, wh_n h4 rfl, hC.2.2.2.2⟩, hR, D, D2, nowE_up (Nat.le_succ _) hN, memE_up (Nat.le_succ _) hM, mrkE_up (Nat.le_succ _) hK⟩
set_option maxHeartbeats 2000000 in
theorem pU_4 {ci : Nat → Int32} {cf : Nat → Nat → Int32} {mi : Nat → Int32} {mf : Nat → Nat → Int32} (hr : rlU ci cf mi mf) (x1 x2 : Int32) : ∃ o q, f_X10_reach x1 x2 (ci 18) (ci 20) (cf 14) (cf 15) (cf 16) (cf 17) (cf 18) (ci 25) (ci 26) (ci 27) (ci 66) (ci 67) (cf 49) (cf 50) (cf 51) (cf 53) (cf 54) (ci 0) = some o ∧ f_X12_reachN x1 x2 (mi 0) (mi 1) (mi 2) = some q ∧ o.1 = q.1 ∧ rlU (up ci [(0, o.2.2.2.2.2.2.2.2.2), (25, o.2.2.2.2.2.2.1), (26, o.2.2.2.2.2.2.2.1), (27, o.2.2.2.2.2.2.2.2.1)]) (up cf [(14, o.2.1), (15, o.2.2.1), (16, o.2.2.2.1), (17, o.2.2.2.2.1), (18, o.2.2.2.2.2.1)]) (up mi [(0, q.2.1), (1, q.2.2.1), (2, q.2.2.2)]) mf := by
  obtain ⟨hC, u20, u21, u23, u24, u64, u65, u66, u67, u68, u69, u70⟩ := hr
  rw [u66, u67]
  obtain ⟨o, e1, h1, h2⟩ := n_reach x1 x2 (ci 18) (ci 20) (cf 14) (cf 15) (cf 16) (cf 17) (cf 18) (ci 25) (ci 26) (ci 27) (cf 49) (cf 50) (cf 51) (cf 53) (cf 54) (ci 0)
  exact ⟨o, _, e1, q_reach _ _ _ _ _ , h1, ⟨hC.1, hC.2.1, h2.symm, wh_n (ne4_1 h2) rfl, hC.2.2.2.2⟩, u20, u21, u23, u24, u64, u65, u66, u67, u68, u69, u70⟩
set_option maxHeartbeats 2000000 in
theorem pT_5 {cap : Nat} (hcap : cap < 2 ^ 15) {ci : Nat → Int32} {cf : Nat → Nat → Int32} {mi : Nat → Int32} {mf : Nat → Nat → Int32} {ri : Nat → Int32} {rf : Nat → Nat → Int32} {kl kb kf ks : Nat → Int32} {kw : Nat → Nat → Int32} {mlM mbM mfM msM : Nat → Int32} {mwM : Nat → Nat → Int32} (hr : rlT cap ci cf mi mf ri rf kl kb kf ks kw mlM mbM mfM msM mwM) (x1 x2 : Int32) : ∃ o q, f_X10_rope x1 x2 (ci 18) (ci 19) (ci 20) (cf 13) (cf 14) (cf 15) (cf 16) (cf 17) (cf 18) (ci 25) (ci 26) (ci 27) (ci 66) (ci 67) (cf 49) (cf 50) (cf 51) (cf 53) (cf 54) (cf 55) (ci 0) = some o ∧ f_X12_rope x1 x2 (mi 0) (mi 1) (mi 2) (ri 2) (ri 3) (rf 0) (rf 1) (rf 2) (rf 4) (rf 5) (rf 6) (mf 1) (mf 5) (mf 6) (mf 7) (mf 8) (mi 13) = some q ∧ o.1 = q.1 ∧ rlT (cap + 1) (up ci [(0, o.2.2.2.2.2.2.2.2.2), (25, o.2.2.2.2.2.2.1), (26, o.2.2.2.2.2.2.2.1), (27, o.2.2.2.2.2.2.2.2.1)]) (up cf [(14, o.2.1), (15, o.2.2.1), (16, o.2.2.2.1), (17, o.2.2.2.2.1), (18, o.2.2.2.2.2.1)]) (up mi [(0, q.2.1), (1, q.2.2.1), (2, q.2.2.2.1), (13, q.2.2.2.2.2.2.2.2)]) (up mf [(5, q.2.2.2.2.1), (6, q.2.2.2.2.2.1), (7, q.2.2.2.2.2.2.1), (8, q.2.2.2.2.2.2.2.1)]) ri rf kl kb kf ks kw mlM mbM mfM msM mwM := by
  obtain ⟨R, l, hC, hR, D, D2, hN, hM, hK⟩ := hr
  obtain ⟨d64, d65, d66, d67, d68, d69, d70, d71, dk, dw, db, hm, da, du, hb, hs, hbw, hbd⟩ := id D
  obtain ⟨r0, r1, r2, r3, r4, r5, r6, r7, ek, ew, eb, hm2, ea, eu, hb2, hs2, hbw2, hbd2⟩ := id D2
  have T : tR R (cf 49) (cf 50) (cf 51) (cf 53) (cf 54) := ⟨dk, dw, db, da, du⟩
  have T2 : tR R (rf 0) (rf 1) (rf 2) (rf 4) (rf 5) := ⟨ek, ew, eb, ea, eu⟩
  obtain ⟨⟨L, U, f, sd, V⟩, ⟨a18, a19, a20, a21, hwr⟩, hv, ⟨hL, hU, hdj, hsd, hVc⟩, hf9⟩ := id hN
  replace a18 : ci 18 = nI L := a18
  replace a19 : ci 19 = nI U := a19
  replace a20 : ci 20 = nI f := a20
  replace a21 : ci 21 = nI sd := a21
  replace hwr : rw_ (R 0 1) (cf 13) V := hwr
  replace hv : vR (R 0 1) (mf 1) L U f sd V := hv
  replace hL : L < 2 ^ R 0 1 := hL
  replace hU : U < 2 ^ R 0 1 := hU
  replace hdj : dj L U := hdj
  replace hsd : sd ≤ 65536 := hsd
  replace hVc : ∀ j, j < R 0 1 → V j ≤ cap := hVc
  replace hf9 : f ≤ 999 := hf9
  have hV : ∀ j, j < R 0 1 → V j < 2 ^ 20 := fun j hj => Nat.lt_of_le_of_lt (hVc j hj) (Nat.lt_trans hcap (by decide))
  have hf : f < 2 ^ 16 := Nat.lt_of_le_of_lt hf9 (by decide)
  have hq : qOK R cap (L, U, sd, V) := ⟨hL, hU, hdj, hsd, hVc⟩
  rw [a18, a19, a20, d66, d67, r2, r3]
  obtain ⟨ans, t, ⟨w, co, de, sp, ha, be, al, si, e1⟩, wi, wa, de2, sp2, be2, e2⟩ := j_rope hR hL T T2 hv hb hb2 hwr hV hU hdj hf x1 x2 (cf 14) (cf 15) (cf 16) (cf 17) (cf 18) (ci 25) (ci 26) (ci 27) (ci 0) (mi 0) (mi 1) (mi 2) (mf 5) (mf 6) (mf 7) (mf 8) (mi 13)
  have h4 : ¬ t = 4 := nt_rope _ _ _ _ _ _ _ _ _ _ _ _ _ _ _ _ _ _ _ _ _ _ _  _ e1
  exact ⟨_, _, e1, e2, rfl, R, l, ⟨hC.1, hC.2.1, rfl, wh_n h4 rfl, hC.2.2.2.2⟩, hR, D, D2, nowE_up (Nat.le_succ _) hN, memE_up (Nat.le_succ _) hM, mrkE_up (Nat.le_succ _) hK⟩
set_option maxHeartbeats 2000000 in
theorem pU_5 {ci : Nat → Int32} {cf : Nat → Nat → Int32} {mi : Nat → Int32} {mf : Nat → Nat → Int32} (hr : rlU ci cf mi mf) (x1 x2 : Int32) : ∃ o q, f_X10_rope x1 x2 (ci 18) (ci 19) (ci 20) (cf 13) (cf 14) (cf 15) (cf 16) (cf 17) (cf 18) (ci 25) (ci 26) (ci 27) (ci 66) (ci 67) (cf 49) (cf 50) (cf 51) (cf 53) (cf 54) (cf 55) (ci 0) = some o ∧ f_X12_ropeN x1 x2 (mi 0) (mi 1) (mi 2) (mf 1) = some q ∧ o.1 = q.1 ∧ rlU (up ci [(0, o.2.2.2.2.2.2.2.2.2), (25, o.2.2.2.2.2.2.1), (26, o.2.2.2.2.2.2.2.1), (27, o.2.2.2.2.2.2.2.2.1)]) (up cf [(14, o.2.1), (15, o.2.2.1), (16, o.2.2.2.1), (17, o.2.2.2.2.1), (18, o.2.2.2.2.2.1)]) (up mi [(0, q.2.1), (1, q.2.2.1), (2, q.2.2.2)]) mf := by
  obtain ⟨hC, u20, u21, u23, u24, u64, u65, u66, u67, u68, u69, u70⟩ := hr
  rw [u66, u67]
  obtain ⟨o, e1, h1, h2⟩ := n_rope x1 x2 (ci 18) (ci 19) (ci 20) (cf 13) (cf 14) (cf 15) (cf 16) (cf 17) (cf 18) (ci 25) (ci 26) (ci 27) (cf 49) (cf 50) (cf 51) (cf 53) (cf 54) (cf 55) (ci 0)
  exact ⟨o, _, e1, q_rope _ _ _ _ _ _ , h1, ⟨hC.1, hC.2.1, h2.symm, wh_n (ne4_1 h2) rfl, hC.2.2.2.2⟩, u20, u21, u23, u24, u64, u65, u66, u67, u68, u69, u70⟩
set_option maxHeartbeats 2000000 in
theorem pT_6 {cap : Nat} (hcap : cap < 2 ^ 15) {ci : Nat → Int32} {cf : Nat → Nat → Int32} {mi : Nat → Int32} {mf : Nat → Nat → Int32} {ri : Nat → Int32} {rf : Nat → Nat → Int32} {kl kb kf ks : Nat → Int32} {kw : Nat → Nat → Int32} {mlM mbM mfM msM : Nat → Int32} {mwM : Nat → Nat → Int32} (hr : rlT cap ci cf mi mf ri rf kl kb kf ks kw mlM mbM mfM msM mwM) : ∃ o q, f_X10_below (ci 18) (ci 20) (cf 14) (cf 15) (cf 16) (cf 17) (cf 18) (ci 25) (ci 26) (ci 27) (ci 66) (ci 67) (cf 49) (cf 50) (cf 51) (cf 53) (cf 54) (ci 0) = some o ∧ f_X12_below (mi 0) (mi 1) (mi 2) (ri 2) (ri 3) (rf 0) (rf 1) (rf 2) (rf 4) (rf 5) (mf 1) (mf 5) (mf 6) (mf 7) (mf 8) (mi 13) = some q ∧ o.1 = q.1 ∧ rlT (cap + 1) (up ci [(0, o.2.2.2.2.2.2.2.2.2), (25, o.2.2.2.2.2.2.1), (26, o.2.2.2.2.2.2.2.1), (27, o.2.2.2.2.2.2.2.2.1)]) (up cf [(14, o.2.1), (15, o.2.2.1), (16, o.2.2.2.1), (17, o.2.2.2.2.1), (18, o.2.2.2.2.2.1)]) (up mi [(0, q.2.1), (1, q.2.2.1), (2, q.2.2.2.1), (13, q.2.2.2.2.2.2.2.2)]) (up mf [(5, q.2.2.2.2.1), (6, q.2.2.2.2.2.1), (7, q.2.2.2.2.2.2.1), (8, q.2.2.2.2.2.2.2.1)]) ri rf kl kb kf ks kw mlM mbM mfM msM mwM := by
  obtain ⟨R, l, hC, hR, D, D2, hN, hM, hK⟩ := hr
  obtain ⟨d64, d65, d66, d67, d68, d69, d70, d71, dk, dw, db, hm, da, du, hb, hs, hbw, hbd⟩ := id D
  obtain ⟨r0, r1, r2, r3, r4, r5, r6, r7, ek, ew, eb, hm2, ea, eu, hb2, hs2, hbw2, hbd2⟩ := id D2
  have T : tR R (cf 49) (cf 50) (cf 51) (cf 53) (cf 54) := ⟨dk, dw, db, da, du⟩
  have T2 : tR R (rf 0) (rf 1) (rf 2) (rf 4) (rf 5) := ⟨ek, ew, eb, ea, eu⟩
  obtain ⟨⟨L, U, f, sd, V⟩, ⟨a18, a19, a20, a21, hwr⟩, hv, ⟨hL, hU, hdj, hsd, hVc⟩, hf9⟩ := id hN
  replace a18 : ci 18 = nI L := a18
  replace a19 : ci 19 = nI U := a19
  replace a20 : ci 20 = nI f := a20
  replace a21 : ci 21 = nI sd := a21
  replace hwr : rw_ (R 0 1) (cf 13) V := hwr
  replace hv : vR (R 0 1) (mf 1) L U f sd V := hv
  replace hL : L < 2 ^ R 0 1 := hL
  replace hU : U < 2 ^ R 0 1 := hU
  replace hdj : dj L U := hdj
  replace hsd : sd ≤ 65536 := hsd
  replace hVc : ∀ j, j < R 0 1 → V j ≤ cap := hVc
  replace hf9 : f ≤ 999 := hf9
  have hV : ∀ j, j < R 0 1 → V j < 2 ^ 20 := fun j hj => Nat.lt_of_le_of_lt (hVc j hj) (Nat.lt_trans hcap (by decide))
  have hf : f < 2 ^ 16 := Nat.lt_of_le_of_lt hf9 (by decide)
  have hq : qOK R cap (L, U, sd, V) := ⟨hL, hU, hdj, hsd, hVc⟩
  rw [a18, a20, d66, d67, r2, r3]
  obtain ⟨u0, u1, u2, u3, u4, u5, u6, u7, e1⟩ := s_below hR hL hf T (cf 14) (cf 15) (cf 16) (cf 17) (cf 18) (ci 25) (ci 26) (ci 27) (ci 0)
  obtain ⟨z0, z1, z2, z3, z4, e2⟩ := m_below hR hL hf T2 hv (mi 0) (mi 1) (mi 2) (mf 5) (mf 6) (mf 7) (mf 8) (mi 13)
  exact ⟨_, _, e1, e2, rfl, R, l, ⟨hC.1, hC.2.1, rfl, wh_n ne4_0 rfl, hC.2.2.2.2⟩, hR, D, D2, nowE_up (Nat.le_succ _) hN, memE_up (Nat.le_succ _) hM, mrkE_up (Nat.le_succ _) hK⟩
set_option maxHeartbeats 2000000 in
theorem pU_6 {ci : Nat → Int32} {cf : Nat → Nat → Int32} {mi : Nat → Int32} {mf : Nat → Nat → Int32} (hr : rlU ci cf mi mf) : ∃ o q, f_X10_below (ci 18) (ci 20) (cf 14) (cf 15) (cf 16) (cf 17) (cf 18) (ci 25) (ci 26) (ci 27) (ci 66) (ci 67) (cf 49) (cf 50) (cf 51) (cf 53) (cf 54) (ci 0) = some o ∧ f_X12_belowN (mi 0) (mi 1) (mi 2) = some q ∧ o.1 = q.1 ∧ rlU (up ci [(0, o.2.2.2.2.2.2.2.2.2), (25, o.2.2.2.2.2.2.1), (26, o.2.2.2.2.2.2.2.1), (27, o.2.2.2.2.2.2.2.2.1)]) (up cf [(14, o.2.1), (15, o.2.2.1), (16, o.2.2.2.1), (17, o.2.2.2.2.1), (18, o.2.2.2.2.2.1)]) (up mi [(0, q.2.1), (1, q.2.2.1), (2, q.2.2.2)]) mf := by
  obtain ⟨hC, u20, u21, u23, u24, u64, u65, u66, u67, u68, u69, u70⟩ := hr
  rw [u66, u67]
  obtain ⟨o, e1, h1, h2⟩ := n_below (ci 18) (ci 20) (cf 14) (cf 15) (cf 16) (cf 17) (cf 18) (ci 25) (ci 26) (ci 27) (cf 49) (cf 50) (cf 51) (cf 53) (cf 54) (ci 0)
  exact ⟨o, _, e1, q_below _ _ _ , h1, ⟨hC.1, hC.2.1, h2.symm, wh_n (ne4_1 h2) rfl, hC.2.2.2.2⟩, u20, u21, u23, u24, u64, u65, u66, u67, u68, u69, u70⟩
set_option maxHeartbeats 2000000 in
theorem pT_7 {cap : Nat} (hcap : cap < 2 ^ 15) {ci : Nat → Int32} {cf : Nat → Nat → Int32} {mi : Nat → Int32} {mf : Nat → Nat → Int32} {ri : Nat → Int32} {rf : Nat → Nat → Int32} {kl kb kf ks : Nat → Int32} {kw : Nat → Nat → Int32} {mlM mbM mfM msM : Nat → Int32} {mwM : Nat → Nat → Int32} (hr : rlT cap ci cf mi mf ri rf kl kb kf ks kw mlM mbM mfM msM mwM) : ∃ o q, f_X10_harm (ci 18) (ci 20) (cf 14) (cf 15) (cf 16) (cf 17) (cf 18) (ci 25) (ci 26) (ci 27) (ci 66) (ci 67) (cf 49) (cf 50) (cf 51) (cf 53) (cf 54) (ci 0) = some o ∧ f_X12_harm (mi 0) (mi 1) (mi 2) (ri 2) (ri 3) (rf 0) (rf 1) (rf 2) (rf 4) (rf 5) (mf 1) (mf 5) (mf 6) (mf 7) (mf 8) (mi 13) = some q ∧ o.1 = q.1 ∧ rlT (cap + 1) (up ci [(0, o.2.2.2.2.2.2.2.2.2), (25, o.2.2.2.2.2.2.1), (26, o.2.2.2.2.2.2.2.1), (27, o.2.2.2.2.2.2.2.2.1)]) (up cf [(14, o.2.1), (15, o.2.2.1), (16, o.2.2.2.1), (17, o.2.2.2.2.1), (18, o.2.2.2.2.2.1)]) (up mi [(0, q.2.1), (1, q.2.2.1), (2, q.2.2.2.1), (13, q.2.2.2.2.2.2.2.2)]) (up mf [(5, q.2.2.2.2.1), (6, q.2.2.2.2.2.1), (7, q.2.2.2.2.2.2.1), (8, q.2.2.2.2.2.2.2.1)]) ri rf kl kb kf ks kw mlM mbM mfM msM mwM := by
  obtain ⟨R, l, hC, hR, D, D2, hN, hM, hK⟩ := hr
  obtain ⟨d64, d65, d66, d67, d68, d69, d70, d71, dk, dw, db, hm, da, du, hb, hs, hbw, hbd⟩ := id D
  obtain ⟨r0, r1, r2, r3, r4, r5, r6, r7, ek, ew, eb, hm2, ea, eu, hb2, hs2, hbw2, hbd2⟩ := id D2
  have T : tR R (cf 49) (cf 50) (cf 51) (cf 53) (cf 54) := ⟨dk, dw, db, da, du⟩
  have T2 : tR R (rf 0) (rf 1) (rf 2) (rf 4) (rf 5) := ⟨ek, ew, eb, ea, eu⟩
  obtain ⟨⟨L, U, f, sd, V⟩, ⟨a18, a19, a20, a21, hwr⟩, hv, ⟨hL, hU, hdj, hsd, hVc⟩, hf9⟩ := id hN
  replace a18 : ci 18 = nI L := a18
  replace a19 : ci 19 = nI U := a19
  replace a20 : ci 20 = nI f := a20
  replace a21 : ci 21 = nI sd := a21
  replace hwr : rw_ (R 0 1) (cf 13) V := hwr
  replace hv : vR (R 0 1) (mf 1) L U f sd V := hv
  replace hL : L < 2 ^ R 0 1 := hL
  replace hU : U < 2 ^ R 0 1 := hU
  replace hdj : dj L U := hdj
  replace hsd : sd ≤ 65536 := hsd
  replace hVc : ∀ j, j < R 0 1 → V j ≤ cap := hVc
  replace hf9 : f ≤ 999 := hf9
  have hV : ∀ j, j < R 0 1 → V j < 2 ^ 20 := fun j hj => Nat.lt_of_le_of_lt (hVc j hj) (Nat.lt_trans hcap (by decide))
  have hf : f < 2 ^ 16 := Nat.lt_of_le_of_lt hf9 (by decide)
  have hq : qOK R cap (L, U, sd, V) := ⟨hL, hU, hdj, hsd, hVc⟩
  rw [a18, a20, d66, d67, r2, r3]
  obtain ⟨u0, u1, u2, u3, u4, u5, u6, u7, e1⟩ := s_harm hR hL hf T (cf 14) (cf 15) (cf 16) (cf 17) (cf 18) (ci 25) (ci 26) (ci 27) (ci 0)
  obtain ⟨z0, z1, z2, z3, z4, e2⟩ := m_harm hR hL hf T2 hv (mi 0) (mi 1) (mi 2) (mf 5) (mf 6) (mf 7) (mf 8) (mi 13)
  exact ⟨_, _, e1, e2, rfl, R, l, ⟨hC.1, hC.2.1, rfl, wh_n ne4_0 rfl, hC.2.2.2.2⟩, hR, D, D2, nowE_up (Nat.le_succ _) hN, memE_up (Nat.le_succ _) hM, mrkE_up (Nat.le_succ _) hK⟩
set_option maxHeartbeats 2000000 in
theorem pU_7 {ci : Nat → Int32} {cf : Nat → Nat → Int32} {mi : Nat → Int32} {mf : Nat → Nat → Int32} (hr : rlU ci cf mi mf) : ∃ o q, f_X10_harm (ci 18) (ci 20) (cf 14) (cf 15) (cf 16) (cf 17) (cf 18) (ci 25) (ci 26) (ci 27) (ci 66) (ci 67) (cf 49) (cf 50) (cf 51) (cf 53) (cf 54) (ci 0) = some o ∧ f_X12_harmN (mi 0) (mi 1) (mi 2) = some q ∧ o.1 = q.1 ∧ rlU (up ci [(0, o.2.2.2.2.2.2.2.2.2), (25, o.2.2.2.2.2.2.1), (26, o.2.2.2.2.2.2.2.1), (27, o.2.2.2.2.2.2.2.2.1)]) (up cf [(14, o.2.1), (15, o.2.2.1), (16, o.2.2.2.1), (17, o.2.2.2.2.1), (18, o.2.2.2.2.2.1)]) (up mi [(0, q.2.1), (1, q.2.2.1), (2, q.2.2.2)]) mf := by
  obtain ⟨hC, u20, u21, u23, u24, u64, u65, u66, u67, u68, u69, u70⟩ := hr
  rw [u66, u67]
  obtain ⟨o, e1, h1, h2⟩ := n_harm (ci 18) (ci 20) (cf 14) (cf 15) (cf 16) (cf 17) (cf 18) (ci 25) (ci 26) (ci 27) (cf 49) (cf 50) (cf 51) (cf 53) (cf 54) (ci 0)
  exact ⟨o, _, e1, q_harm _ _ _ , h1, ⟨hC.1, hC.2.1, h2.symm, wh_n (ne4_1 h2) rfl, hC.2.2.2.2⟩, u20, u21, u23, u24, u64, u65, u66, u67, u68, u69, u70⟩
set_option maxHeartbeats 2000000 in
theorem pT_8 {cap : Nat} (hcap : cap < 2 ^ 15) {ci : Nat → Int32} {cf : Nat → Nat → Int32} {mi : Nat → Int32} {mf : Nat → Nat → Int32} {ri : Nat → Int32} {rf : Nat → Nat → Int32} {kl kb kf ks : Nat → Int32} {kw : Nat → Nat → Int32} {mlM mbM mfM msM : Nat → Int32} {mwM : Nat → Nat → Int32} (hr : rlT cap ci cf mi mf ri rf kl kb kf ks kw mlM mbM mfM msM mwM) : ∃ o q, f_X10_spills (ci 18) (ci 20) (cf 14) (cf 15) (cf 16) (cf 17) (cf 18) (ci 25) (ci 26) (ci 27) (ci 66) (ci 67) (cf 49) (cf 50) (cf 51) (cf 53) (cf 54) (ci 0) = some o ∧ f_X12_spills (mi 0) (mi 1) (mi 2) (ri 2) (ri 3) (rf 0) (rf 1) (rf 2) (rf 4) (rf 5) (mf 1) (mf 5) (mf 6) (mf 7) (mf 8) (mi 13) = some q ∧ o.1 = q.1 ∧ rlT (cap + 1) (up ci [(0, o.2.2.2.2.2.2.2.2.2), (25, o.2.2.2.2.2.2.1), (26, o.2.2.2.2.2.2.2.1), (27, o.2.2.2.2.2.2.2.2.1)]) (up cf [(14, o.2.1), (15, o.2.2.1), (16, o.2.2.2.1), (17, o.2.2.2.2.1), (18, o.2.2.2.2.2.1)]) (up mi [(0, q.2.1), (1, q.2.2.1), (2, q.2.2.2.1), (13, q.2.2.2.2.2.2.2.2)]) (up mf [(5, q.2.2.2.2.1), (6, q.2.2.2.2.2.1), (7, q.2.2.2.2.2.2.1), (8, q.2.2.2.2.2.2.2.1)]) ri rf kl kb kf ks kw mlM mbM mfM msM mwM := by
  obtain ⟨R, l, hC, hR, D, D2, hN, hM, hK⟩ := hr
  obtain ⟨d64, d65, d66, d67, d68, d69, d70, d71, dk, dw, db, hm, da, du, hb, hs, hbw, hbd⟩ := id D
  obtain ⟨r0, r1, r2, r3, r4, r5, r6, r7, ek, ew, eb, hm2, ea, eu, hb2, hs2, hbw2, hbd2⟩ := id D2
  have T : tR R (cf 49) (cf 50) (cf 51) (cf 53) (cf 54) := ⟨dk, dw, db, da, du⟩
  have T2 : tR R (rf 0) (rf 1) (rf 2) (rf 4) (rf 5) := ⟨ek, ew, eb, ea, eu⟩
  obtain ⟨⟨L, U, f, sd, V⟩, ⟨a18, a19, a20, a21, hwr⟩, hv, ⟨hL, hU, hdj, hsd, hVc⟩, hf9⟩ := id hN
  replace a18 : ci 18 = nI L := a18
  replace a19 : ci 19 = nI U := a19
  replace a20 : ci 20 = nI f := a20
  replace a21 : ci 21 = nI sd := a21
  replace hwr : rw_ (R 0 1) (cf 13) V := hwr
  replace hv : vR (R 0 1) (mf 1) L U f sd V := hv
  replace hL : L < 2 ^ R 0 1 := hL
  replace hU : U < 2 ^ R 0 1 := hU
  replace hdj : dj L U := hdj
  replace hsd : sd ≤ 65536 := hsd
  replace hVc : ∀ j, j < R 0 1 → V j ≤ cap := hVc
  replace hf9 : f ≤ 999 := hf9
  have hV : ∀ j, j < R 0 1 → V j < 2 ^ 20 := fun j hj => Nat.lt_of_le_of_lt (hVc j hj) (Nat.lt_trans hcap (by decide))
  have hf : f < 2 ^ 16 := Nat.lt_of_le_of_lt hf9 (by decide)
  have hq : qOK R cap (L, U, sd, V) := ⟨hL, hU, hdj, hsd, hVc⟩
  rw [a18, a20, d66, d67, r2, r3]
  obtain ⟨u0, u1, u2, u3, u4, u5, u6, u7, e1⟩ := s_spills hR hL hf T (cf 14) (cf 15) (cf 16) (cf 17) (cf 18) (ci 25) (ci 26) (ci 27) (ci 0)
  obtain ⟨z0, z1, z2, z3, z4, e2⟩ := m_spills hR hL hf T2 hv (mi 0) (mi 1) (mi 2) (mf 5) (mf 6) (mf 7) (mf 8) (mi 13)
  exact ⟨_, _, e1, e2, rfl, R, l, ⟨hC.1, hC.2.1, rfl, wh_n ne4_0 rfl, hC.2.2.2.2⟩, hR, D, D2, nowE_up (Nat.le_succ _) hN, memE_up (Nat.le_succ _) hM, mrkE_up (Nat.le_succ _) hK⟩
set_option maxHeartbeats 2000000 in
theorem pU_8 {ci : Nat → Int32} {cf : Nat → Nat → Int32} {mi : Nat → Int32} {mf : Nat → Nat → Int32} (hr : rlU ci cf mi mf) : ∃ o q, f_X10_spills (ci 18) (ci 20) (cf 14) (cf 15) (cf 16) (cf 17) (cf 18) (ci 25) (ci 26) (ci 27) (ci 66) (ci 67) (cf 49) (cf 50) (cf 51) (cf 53) (cf 54) (ci 0) = some o ∧ f_X12_spillsN (mi 0) (mi 1) (mi 2) = some q ∧ o.1 = q.1 ∧ rlU (up ci [(0, o.2.2.2.2.2.2.2.2.2), (25, o.2.2.2.2.2.2.1), (26, o.2.2.2.2.2.2.2.1), (27, o.2.2.2.2.2.2.2.2.1)]) (up cf [(14, o.2.1), (15, o.2.2.1), (16, o.2.2.2.1), (17, o.2.2.2.2.1), (18, o.2.2.2.2.2.1)]) (up mi [(0, q.2.1), (1, q.2.2.1), (2, q.2.2.2)]) mf := by
  obtain ⟨hC, u20, u21, u23, u24, u64, u65, u66, u67, u68, u69, u70⟩ := hr
  rw [u66, u67]
  obtain ⟨o, e1, h1, h2⟩ := n_spills (ci 18) (ci 20) (cf 14) (cf 15) (cf 16) (cf 17) (cf 18) (ci 25) (ci 26) (ci 27) (cf 49) (cf 50) (cf 51) (cf 53) (cf 54) (ci 0)
  exact ⟨o, _, e1, q_spills _ _ _ , h1, ⟨hC.1, hC.2.1, h2.symm, wh_n (ne4_1 h2) rfl, hC.2.2.2.2⟩, u20, u21, u23, u24, u64, u65, u66, u67, u68, u69, u70⟩
set_option maxHeartbeats 2000000 in
theorem pT_9 {cap : Nat} (hcap : cap < 2 ^ 15) {ci : Nat → Int32} {cf : Nat → Nat → Int32} {mi : Nat → Int32} {mf : Nat → Nat → Int32} {ri : Nat → Int32} {rf : Nat → Nat → Int32} {kl kb kf ks : Nat → Int32} {kw : Nat → Nat → Int32} {mlM mbM mfM msM : Nat → Int32} {mwM : Nat → Nat → Int32} (hr : rlT cap ci cf mi mf ri rf kl kb kf ks kw mlM mbM mfM msM mwM) : ∃ o q, f_X10_outOfLaw (ci 18) (ci 20) (cf 14) (cf 15) (cf 16) (cf 17) (cf 18) (ci 25) (ci 26) (ci 27) (ci 65) (ci 66) (ci 67) (cf 49) (cf 50) (cf 51) (cf 53) (cf 54) (ci 0) = some o ∧ f_X12_outOfLaw (mi 0) (mi 1) (mi 2) (ri 1) (ri 2) (ri 3) (rf 0) (rf 1) (rf 2) (rf 4) (rf 5) (mf 1) (mf 5) (mf 6) (mf 7) (mf 8) (mi 13) = some q ∧ o.1 = q.1 ∧ rlT (cap + 1) (up ci [(0, o.2.2.2.2.2.2.2.2.2), (25, o.2.2.2.2.2.2.1), (26, o.2.2.2.2.2.2.2.1), (27, o.2.2.2.2.2.2.2.2.1)]) (up cf [(14, o.2.1), (15, o.2.2.1), (16, o.2.2.2.1), (17, o.2.2.2.2.1), (18, o.2.2.2.2.2.1)]) (up mi [(0, q.2.1), (1, q.2.2.1), (2, q.2.2.2.1), (13, q.2.2.2.2.2.2.2.2)]) (up mf [(5, q.2.2.2.2.1), (6, q.2.2.2.2.2.1), (7, q.2.2.2.2.2.2.1), (8, q.2.2.2.2.2.2.2.1)]) ri rf kl kb kf ks kw mlM mbM mfM msM mwM := by
  obtain ⟨R, l, hC, hR, D, D2, hN, hM, hK⟩ := hr
  obtain ⟨d64, d65, d66, d67, d68, d69, d70, d71, dk, dw, db, hm, da, du, hb, hs, hbw, hbd⟩ := id D
  obtain ⟨r0, r1, r2, r3, r4, r5, r6, r7, ek, ew, eb, hm2, ea, eu, hb2, hs2, hbw2, hbd2⟩ := id D2
  have T : tR R (cf 49) (cf 50) (cf 51) (cf 53) (cf 54) := ⟨dk, dw, db, da, du⟩
  have T2 : tR R (rf 0) (rf 1) (rf 2) (rf 4) (rf 5) := ⟨ek, ew, eb, ea, eu⟩
  obtain ⟨⟨L, U, f, sd, V⟩, ⟨a18, a19, a20, a21, hwr⟩, hv, ⟨hL, hU, hdj, hsd, hVc⟩, hf9⟩ := id hN
  replace a18 : ci 18 = nI L := a18
  replace a19 : ci 19 = nI U := a19
  replace a20 : ci 20 = nI f := a20
  replace a21 : ci 21 = nI sd := a21
  replace hwr : rw_ (R 0 1) (cf 13) V := hwr
  replace hv : vR (R 0 1) (mf 1) L U f sd V := hv
  replace hL : L < 2 ^ R 0 1 := hL
  replace hU : U < 2 ^ R 0 1 := hU
  replace hdj : dj L U := hdj
  replace hsd : sd ≤ 65536 := hsd
  replace hVc : ∀ j, j < R 0 1 → V j ≤ cap := hVc
  replace hf9 : f ≤ 999 := hf9
  have hV : ∀ j, j < R 0 1 → V j < 2 ^ 20 := fun j hj => Nat.lt_of_le_of_lt (hVc j hj) (Nat.lt_trans hcap (by decide))
  have hf : f < 2 ^ 16 := Nat.lt_of_le_of_lt hf9 (by decide)
  have hq : qOK R cap (L, U, sd, V) := ⟨hL, hU, hdj, hsd, hVc⟩
  rw [a18, a20, d65, d66, d67, r1, r2, r3]
  obtain ⟨u0, u1, u2, u3, u4, u5, u6, u7, e1⟩ := s_outOfLaw hR hL hf T (cf 14) (cf 15) (cf 16) (cf 17) (cf 18) (ci 25) (ci 26) (ci 27) (ci 0)
  obtain ⟨z0, z1, z2, z3, z4, e2⟩ := m_outOfLaw hR hL hf T2 hv (mi 0) (mi 1) (mi 2) (mf 5) (mf 6) (mf 7) (mf 8) (mi 13)
  exact ⟨_, _, e1, e2, rfl, R, l, ⟨hC.1, hC.2.1, rfl, wh_n ne4_0 rfl, hC.2.2.2.2⟩, hR, D, D2, nowE_up (Nat.le_succ _) hN, memE_up (Nat.le_succ _) hM, mrkE_up (Nat.le_succ _) hK⟩
set_option maxHeartbeats 2000000 in
theorem pU_9 {ci : Nat → Int32} {cf : Nat → Nat → Int32} {mi : Nat → Int32} {mf : Nat → Nat → Int32} (hr : rlU ci cf mi mf) : ∃ o q, f_X10_outOfLaw (ci 18) (ci 20) (cf 14) (cf 15) (cf 16) (cf 17) (cf 18) (ci 25) (ci 26) (ci 27) (ci 65) (ci 66) (ci 67) (cf 49) (cf 50) (cf 51) (cf 53) (cf 54) (ci 0) = some o ∧ f_X12_outOfLawN (mi 0) (mi 1) (mi 2) = some q ∧ o.1 = q.1 ∧ rlU (up ci [(0, o.2.2.2.2.2.2.2.2.2), (25, o.2.2.2.2.2.2.1), (26, o.2.2.2.2.2.2.2.1), (27, o.2.2.2.2.2.2.2.2.1)]) (up cf [(14, o.2.1), (15, o.2.2.1), (16, o.2.2.2.1), (17, o.2.2.2.2.1), (18, o.2.2.2.2.2.1)]) (up mi [(0, q.2.1), (1, q.2.2.1), (2, q.2.2.2)]) mf := by
  obtain ⟨hC, u20, u21, u23, u24, u64, u65, u66, u67, u68, u69, u70⟩ := hr
  rw [u66, u67]
  obtain ⟨o, e1, h1, h2⟩ := n_outOfLaw (ci 18) (ci 20) (cf 14) (cf 15) (cf 16) (cf 17) (cf 18) (ci 25) (ci 26) (ci 27) (ci 65) (cf 49) (cf 50) (cf 51) (cf 53) (cf 54) (ci 0)
  exact ⟨o, _, e1, q_outOfLaw _ _ _ , h1, ⟨hC.1, hC.2.1, h2.symm, wh_n (ne4_1 h2) rfl, hC.2.2.2.2⟩, u20, u21, u23, u24, u64, u65, u66, u67, u68, u69, u70⟩
set_option maxHeartbeats 2000000 in
theorem pT_10 {cap : Nat} (hcap : cap < 2 ^ 15) {ci : Nat → Int32} {cf : Nat → Nat → Int32} {mi : Nat → Int32} {mf : Nat → Nat → Int32} {ri : Nat → Int32} {rf : Nat → Nat → Int32} {kl kb kf ks : Nat → Int32} {kw : Nat → Nat → Int32} {mlM mbM mfM msM : Nat → Int32} {mwM : Nat → Nat → Int32} (hr : rlT cap ci cf mi mf ri rf kl kb kf ks kw mlM mbM mfM msM mwM) : ∃ o q, f_X10_narrowest (ci 18) (ci 20) (cf 14) (cf 15) (cf 16) (cf 17) (cf 18) (ci 25) (ci 26) (ci 27) (ci 66) (ci 67) (cf 49) (cf 50) (cf 51) (cf 53) (cf 54) (ci 0) = some o ∧ f_X12_narrowest (mi 0) (mi 1) (mi 2) (ri 2) (ri 3) (rf 0) (rf 1) (rf 2) (rf 4) (rf 5) (mf 1) (mf 5) (mf 6) (mf 7) (mf 8) (mi 13) = some q ∧ o.1 = q.1 ∧ rlT (cap + 1) (up ci [(0, o.2.2.2.2.2.2.2.2.2), (25, o.2.2.2.2.2.2.1), (26, o.2.2.2.2.2.2.2.1), (27, o.2.2.2.2.2.2.2.2.1)]) (up cf [(14, o.2.1), (15, o.2.2.1), (16, o.2.2.2.1), (17, o.2.2.2.2.1), (18, o.2.2.2.2.2.1)]) (up mi [(0, q.2.1), (1, q.2.2.1), (2, q.2.2.2.1), (13, q.2.2.2.2.2.2.2.2)]) (up mf [(5, q.2.2.2.2.1), (6, q.2.2.2.2.2.1), (7, q.2.2.2.2.2.2.1), (8, q.2.2.2.2.2.2.2.1)]) ri rf kl kb kf ks kw mlM mbM mfM msM mwM := by
  obtain ⟨R, l, hC, hR, D, D2, hN, hM, hK⟩ := hr
  obtain ⟨d64, d65, d66, d67, d68, d69, d70, d71, dk, dw, db, hm, da, du, hb, hs, hbw, hbd⟩ := id D
  obtain ⟨r0, r1, r2, r3, r4, r5, r6, r7, ek, ew, eb, hm2, ea, eu, hb2, hs2, hbw2, hbd2⟩ := id D2
  have T : tR R (cf 49) (cf 50) (cf 51) (cf 53) (cf 54) := ⟨dk, dw, db, da, du⟩
  have T2 : tR R (rf 0) (rf 1) (rf 2) (rf 4) (rf 5) := ⟨ek, ew, eb, ea, eu⟩
  obtain ⟨⟨L, U, f, sd, V⟩, ⟨a18, a19, a20, a21, hwr⟩, hv, ⟨hL, hU, hdj, hsd, hVc⟩, hf9⟩ := id hN
  replace a18 : ci 18 = nI L := a18
  replace a19 : ci 19 = nI U := a19
  replace a20 : ci 20 = nI f := a20
  replace a21 : ci 21 = nI sd := a21
  replace hwr : rw_ (R 0 1) (cf 13) V := hwr
  replace hv : vR (R 0 1) (mf 1) L U f sd V := hv
  replace hL : L < 2 ^ R 0 1 := hL
  replace hU : U < 2 ^ R 0 1 := hU
  replace hdj : dj L U := hdj
  replace hsd : sd ≤ 65536 := hsd
  replace hVc : ∀ j, j < R 0 1 → V j ≤ cap := hVc
  replace hf9 : f ≤ 999 := hf9
  have hV : ∀ j, j < R 0 1 → V j < 2 ^ 20 := fun j hj => Nat.lt_of_le_of_lt (hVc j hj) (Nat.lt_trans hcap (by decide))
  have hf : f < 2 ^ 16 := Nat.lt_of_le_of_lt hf9 (by decide)
  have hq : qOK R cap (L, U, sd, V) := ⟨hL, hU, hdj, hsd, hVc⟩
  rw [a18, a20, d66, d67, r2, r3]
  obtain ⟨u0, u1, u2, u3, u4, u5, u6, u7, e1⟩ := s_narrowest hR hL hf T (cf 14) (cf 15) (cf 16) (cf 17) (cf 18) (ci 25) (ci 26) (ci 27) (ci 0)
  obtain ⟨z0, z1, z2, z3, z4, e2⟩ := m_narrowest hR hL hf T2 hv (mi 0) (mi 1) (mi 2) (mf 5) (mf 6) (mf 7) (mf 8) (mi 13)
  exact ⟨_, _, e1, e2, rfl, R, l, ⟨hC.1, hC.2.1, rfl, wh_n ne4_0 rfl, hC.2.2.2.2⟩, hR, D, D2, nowE_up (Nat.le_succ _) hN, memE_up (Nat.le_succ _) hM, mrkE_up (Nat.le_succ _) hK⟩
set_option maxHeartbeats 2000000 in
theorem pU_10 {ci : Nat → Int32} {cf : Nat → Nat → Int32} {mi : Nat → Int32} {mf : Nat → Nat → Int32} (hr : rlU ci cf mi mf) : ∃ o q, f_X10_narrowest (ci 18) (ci 20) (cf 14) (cf 15) (cf 16) (cf 17) (cf 18) (ci 25) (ci 26) (ci 27) (ci 66) (ci 67) (cf 49) (cf 50) (cf 51) (cf 53) (cf 54) (ci 0) = some o ∧ f_X12_narrowestN (mi 0) (mi 1) (mi 2) = some q ∧ o.1 = q.1 ∧ rlU (up ci [(0, o.2.2.2.2.2.2.2.2.2), (25, o.2.2.2.2.2.2.1), (26, o.2.2.2.2.2.2.2.1), (27, o.2.2.2.2.2.2.2.2.1)]) (up cf [(14, o.2.1), (15, o.2.2.1), (16, o.2.2.2.1), (17, o.2.2.2.2.1), (18, o.2.2.2.2.2.1)]) (up mi [(0, q.2.1), (1, q.2.2.1), (2, q.2.2.2)]) mf := by
  obtain ⟨hC, u20, u21, u23, u24, u64, u65, u66, u67, u68, u69, u70⟩ := hr
  rw [u66, u67]
  obtain ⟨o, e1, h1, h2⟩ := n_narrowest (ci 18) (ci 20) (cf 14) (cf 15) (cf 16) (cf 17) (cf 18) (ci 25) (ci 26) (ci 27) (cf 49) (cf 50) (cf 51) (cf 53) (cf 54) (ci 0)
  exact ⟨o, _, e1, q_narrowest _ _ _ , h1, ⟨hC.1, hC.2.1, h2.symm, wh_n (ne4_1 h2) rfl, hC.2.2.2.2⟩, u20, u21, u23, u24, u64, u65, u66, u67, u68, u69, u70⟩
set_option maxHeartbeats 2000000 in
theorem pT_11 {cap : Nat} (hcap : cap < 2 ^ 15) {ci : Nat → Int32} {cf : Nat → Nat → Int32} {mi : Nat → Int32} {mf : Nat → Nat → Int32} {ri : Nat → Int32} {rf : Nat → Nat → Int32} {kl kb kf ks : Nat → Int32} {kw : Nat → Nat → Int32} {mlM mbM mfM msM : Nat → Int32} {mwM : Nat → Nat → Int32} (hr : rlT cap ci cf mi mf ri rf kl kb kf ks kw mlM mbM mfM msM mwM) : ∃ o q, f_X10_worn (ci 18) (ci 20) (cf 13) (cf 14) (cf 15) (cf 16) (cf 17) (cf 18) (ci 25) (ci 26) (ci 27) (ci 66) (ci 67) (cf 49) (cf 50) (cf 51) (cf 53) (cf 54) (cf 55) (ci 0) = some o ∧ f_X12_worn (mi 0) (mi 1) (mi 2) (ri 2) (ri 3) (rf 0) (rf 1) (rf 2) (rf 4) (rf 5) (rf 6) (mf 1) (mf 5) (mf 6) (mf 7) (mf 8) (mi 13) = some q ∧ o.1 = q.1 ∧ rlT (cap + 1) (up ci [(0, o.2.2.2.2.2.2.2.2.2), (25, o.2.2.2.2.2.2.1), (26, o.2.2.2.2.2.2.2.1), (27, o.2.2.2.2.2.2.2.2.1)]) (up cf [(14, o.2.1), (15, o.2.2.1), (16, o.2.2.2.1), (17, o.2.2.2.2.1), (18, o.2.2.2.2.2.1)]) (up mi [(0, q.2.1), (1, q.2.2.1), (2, q.2.2.2.1), (13, q.2.2.2.2.2.2.2.2)]) (up mf [(5, q.2.2.2.2.1), (6, q.2.2.2.2.2.1), (7, q.2.2.2.2.2.2.1), (8, q.2.2.2.2.2.2.2.1)]) ri rf kl kb kf ks kw mlM mbM mfM msM mwM := by
  obtain ⟨R, l, hC, hR, D, D2, hN, hM, hK⟩ := hr
  obtain ⟨d64, d65, d66, d67, d68, d69, d70, d71, dk, dw, db, hm, da, du, hb, hs, hbw, hbd⟩ := id D
  obtain ⟨r0, r1, r2, r3, r4, r5, r6, r7, ek, ew, eb, hm2, ea, eu, hb2, hs2, hbw2, hbd2⟩ := id D2
  have T : tR R (cf 49) (cf 50) (cf 51) (cf 53) (cf 54) := ⟨dk, dw, db, da, du⟩
  have T2 : tR R (rf 0) (rf 1) (rf 2) (rf 4) (rf 5) := ⟨ek, ew, eb, ea, eu⟩
  obtain ⟨⟨L, U, f, sd, V⟩, ⟨a18, a19, a20, a21, hwr⟩, hv, ⟨hL, hU, hdj, hsd, hVc⟩, hf9⟩ := id hN
  replace a18 : ci 18 = nI L := a18
  replace a19 : ci 19 = nI U := a19
  replace a20 : ci 20 = nI f := a20
  replace a21 : ci 21 = nI sd := a21
  replace hwr : rw_ (R 0 1) (cf 13) V := hwr
  replace hv : vR (R 0 1) (mf 1) L U f sd V := hv
  replace hL : L < 2 ^ R 0 1 := hL
  replace hU : U < 2 ^ R 0 1 := hU
  replace hdj : dj L U := hdj
  replace hsd : sd ≤ 65536 := hsd
  replace hVc : ∀ j, j < R 0 1 → V j ≤ cap := hVc
  replace hf9 : f ≤ 999 := hf9
  have hV : ∀ j, j < R 0 1 → V j < 2 ^ 20 := fun j hj => Nat.lt_of_le_of_lt (hVc j hj) (Nat.lt_trans hcap (by decide))
  have hf : f < 2 ^ 16 := Nat.lt_of_le_of_lt hf9 (by decide)
  have hq : qOK R cap (L, U, sd, V) := ⟨hL, hU, hdj, hsd, hVc⟩
  rw [a18, a20, d66, d67, r2, r3]
  obtain ⟨u0, u1, u2, u3, u4, u5, u6, u7, e1⟩ := s_worn hR hL hf T hb hwr hV (cf 14) (cf 15) (cf 16) (cf 17) (cf 18) (ci 25) (ci 26) (ci 27) (ci 0)
  obtain ⟨z0, z1, z2, z3, z4, e2⟩ := m_worn hR hL hf T2 hb2 hv hV (mi 0) (mi 1) (mi 2) (mf 5) (mf 6) (mf 7) (mf 8) (mi 13)
  exact ⟨_, _, e1, e2, rfl, R, l, ⟨hC.1, hC.2.1, rfl, wh_n ne4_0 rfl, hC.2.2.2.2⟩, hR, D, D2, nowE_up (Nat.le_succ _) hN, memE_up (Nat.le_succ _) hM, mrkE_up (Nat.le_succ _) hK⟩
set_option maxHeartbeats 2000000 in
theorem pU_11 {ci : Nat → Int32} {cf : Nat → Nat → Int32} {mi : Nat → Int32} {mf : Nat → Nat → Int32} (hr : rlU ci cf mi mf) : ∃ o q, f_X10_worn (ci 18) (ci 20) (cf 13) (cf 14) (cf 15) (cf 16) (cf 17) (cf 18) (ci 25) (ci 26) (ci 27) (ci 66) (ci 67) (cf 49) (cf 50) (cf 51) (cf 53) (cf 54) (cf 55) (ci 0) = some o ∧ f_X12_wornN (mi 0) (mi 1) (mi 2) = some q ∧ o.1 = q.1 ∧ rlU (up ci [(0, o.2.2.2.2.2.2.2.2.2), (25, o.2.2.2.2.2.2.1), (26, o.2.2.2.2.2.2.2.1), (27, o.2.2.2.2.2.2.2.2.1)]) (up cf [(14, o.2.1), (15, o.2.2.1), (16, o.2.2.2.1), (17, o.2.2.2.2.1), (18, o.2.2.2.2.2.1)]) (up mi [(0, q.2.1), (1, q.2.2.1), (2, q.2.2.2)]) mf := by
  obtain ⟨hC, u20, u21, u23, u24, u64, u65, u66, u67, u68, u69, u70⟩ := hr
  rw [u66, u67]
  obtain ⟨o, e1, h1, h2⟩ := n_worn (ci 18) (ci 20) (cf 13) (cf 14) (cf 15) (cf 16) (cf 17) (cf 18) (ci 25) (ci 26) (ci 27) (cf 49) (cf 50) (cf 51) (cf 53) (cf 54) (cf 55) (ci 0)
  exact ⟨o, _, e1, q_worn _ _ _ , h1, ⟨hC.1, hC.2.1, h2.symm, wh_n (ne4_1 h2) rfl, hC.2.2.2.2⟩, u20, u21, u23, u24, u64, u65, u66, u67, u68, u69, u70⟩
set_option maxHeartbeats 2000000 in
theorem pT_12 {cap : Nat} (hcap : cap < 2 ^ 15) {ci : Nat → Int32} {cf : Nat → Nat → Int32} {mi : Nat → Int32} {mf : Nat → Nat → Int32} {ri : Nat → Int32} {rf : Nat → Nat → Int32} {kl kb kf ks : Nat → Int32} {kw : Nat → Nat → Int32} {mlM mbM mfM msM : Nat → Int32} {mwM : Nat → Nat → Int32} (hr : rlT cap ci cf mi mf ri rf kl kb kf ks kw mlM mbM mfM msM mwM) : ∃ o q, f_X10_spilt (ci 18) (ci 20) (cf 14) (cf 15) (cf 16) (cf 17) (cf 18) (ci 25) (ci 26) (ci 27) (ci 66) (ci 67) (cf 49) (cf 50) (cf 51) (cf 53) (cf 54) (ci 0) = some o ∧ f_X12_spilt (mi 0) (mi 1) (mi 2) (ri 2) (ri 3) (rf 0) (rf 1) (rf 2) (rf 4) (rf 5) (mf 1) (mf 5) (mf 6) (mf 7) (mf 8) (mi 13) = some q ∧ o.1 = q.1 ∧ rlT (cap + 1) (up ci [(0, o.2.2.2.2.2.2.2.2.2), (25, o.2.2.2.2.2.2.1), (26, o.2.2.2.2.2.2.2.1), (27, o.2.2.2.2.2.2.2.2.1)]) (up cf [(14, o.2.1), (15, o.2.2.1), (16, o.2.2.2.1), (17, o.2.2.2.2.1), (18, o.2.2.2.2.2.1)]) (up mi [(0, q.2.1), (1, q.2.2.1), (2, q.2.2.2.1), (13, q.2.2.2.2.2.2.2.2)]) (up mf [(5, q.2.2.2.2.1), (6, q.2.2.2.2.2.1), (7, q.2.2.2.2.2.2.1), (8, q.2.2.2.2.2.2.2.1)]) ri rf kl kb kf ks kw mlM mbM mfM msM mwM := by
  obtain ⟨R, l, hC, hR, D, D2, hN, hM, hK⟩ := hr
  obtain ⟨d64, d65, d66, d67, d68, d69, d70, d71, dk, dw, db, hm, da, du, hb, hs, hbw, hbd⟩ := id D
  obtain ⟨r0, r1, r2, r3, r4, r5, r6, r7, ek, ew, eb, hm2, ea, eu, hb2, hs2, hbw2, hbd2⟩ := id D2
  have T : tR R (cf 49) (cf 50) (cf 51) (cf 53) (cf 54) := ⟨dk, dw, db, da, du⟩
  have T2 : tR R (rf 0) (rf 1) (rf 2) (rf 4) (rf 5) := ⟨ek, ew, eb, ea, eu⟩
  obtain ⟨⟨L, U, f, sd, V⟩, ⟨a18, a19, a20, a21, hwr⟩, hv, ⟨hL, hU, hdj, hsd, hVc⟩, hf9⟩ := id hN
  replace a18 : ci 18 = nI L := a18
  replace a19 : ci 19 = nI U := a19
  replace a20 : ci 20 = nI f := a20
  replace a21 : ci 21 = nI sd := a21
  replace hwr : rw_ (R 0 1) (cf 13) V := hwr
  replace hv : vR (R 0 1) (mf 1) L U f sd V := hv
  replace hL : L < 2 ^ R 0 1 := hL
  replace hU : U < 2 ^ R 0 1 := hU
  replace hdj : dj L U := hdj
  replace hsd : sd ≤ 65536 := hsd
  replace hVc : ∀ j, j < R 0 1 → V j ≤ cap := hVc
  replace hf9 : f ≤ 999 := hf9
  have hV : ∀ j, j < R 0 1 → V j < 2 ^ 20 := fun j hj => Nat.lt_of_le_of_lt (hVc j hj) (Nat.lt_trans hcap (by decide))
  have hf : f < 2 ^ 16 := Nat.lt_of_le_of_lt hf9 (by decide)
  have hq : qOK R cap (L, U, sd, V) := ⟨hL, hU, hdj, hsd, hVc⟩
  rw [a18, a20, d66, d67, r2, r3]
  obtain ⟨u0, u1, u2, u3, u4, u5, u6, u7, e1⟩ := s_spilt hR hL hf T (cf 14) (cf 15) (cf 16) (cf 17) (cf 18) (ci 25) (ci 26) (ci 27) (ci 0)
  obtain ⟨z0, z1, z2, z3, z4, e2⟩ := m_spilt hR hL hf T2 hv (mi 0) (mi 1) (mi 2) (mf 5) (mf 6) (mf 7) (mf 8) (mi 13)
  exact ⟨_, _, e1, e2, rfl, R, l, ⟨hC.1, hC.2.1, rfl, wh_n ne4_0 rfl, hC.2.2.2.2⟩, hR, D, D2, nowE_up (Nat.le_succ _) hN, memE_up (Nat.le_succ _) hM, mrkE_up (Nat.le_succ _) hK⟩
set_option maxHeartbeats 2000000 in
theorem pU_12 {ci : Nat → Int32} {cf : Nat → Nat → Int32} {mi : Nat → Int32} {mf : Nat → Nat → Int32} (hr : rlU ci cf mi mf) : ∃ o q, f_X10_spilt (ci 18) (ci 20) (cf 14) (cf 15) (cf 16) (cf 17) (cf 18) (ci 25) (ci 26) (ci 27) (ci 66) (ci 67) (cf 49) (cf 50) (cf 51) (cf 53) (cf 54) (ci 0) = some o ∧ f_X12_spiltN (mi 0) (mi 1) (mi 2) = some q ∧ o.1 = q.1 ∧ rlU (up ci [(0, o.2.2.2.2.2.2.2.2.2), (25, o.2.2.2.2.2.2.1), (26, o.2.2.2.2.2.2.2.1), (27, o.2.2.2.2.2.2.2.2.1)]) (up cf [(14, o.2.1), (15, o.2.2.1), (16, o.2.2.2.1), (17, o.2.2.2.2.1), (18, o.2.2.2.2.2.1)]) (up mi [(0, q.2.1), (1, q.2.2.1), (2, q.2.2.2)]) mf := by
  obtain ⟨hC, u20, u21, u23, u24, u64, u65, u66, u67, u68, u69, u70⟩ := hr
  rw [u66, u67]
  obtain ⟨o, e1, h1, h2⟩ := n_spilt (ci 18) (ci 20) (cf 14) (cf 15) (cf 16) (cf 17) (cf 18) (ci 25) (ci 26) (ci 27) (cf 49) (cf 50) (cf 51) (cf 53) (cf 54) (ci 0)
  exact ⟨o, _, e1, q_spilt _ _ _ , h1, ⟨hC.1, hC.2.1, h2.symm, wh_n (ne4_1 h2) rfl, hC.2.2.2.2⟩, u20, u21, u23, u24, u64, u65, u66, u67, u68, u69, u70⟩
set_option maxHeartbeats 2000000 in
theorem pT_13 {cap : Nat} (hcap : cap < 2 ^ 15) {ci : Nat → Int32} {cf : Nat → Nat → Int32} {mi : Nat → Int32} {mf : Nat → Nat → Int32} {ri : Nat → Int32} {rf : Nat → Nat → Int32} {kl kb kf ks : Nat → Int32} {kw : Nat → Nat → Int32} {mlM mbM mfM msM : Nat → Int32} {mwM : Nat → Nat → Int32} (hr : rlT cap ci cf mi mf ri rf kl kb kf ks kw mlM mbM mfM msM mwM) (x1 x2 : Int32) : ∃ o q, f_X10_depthBy x1 x2 (ci 18) (cf 14) (cf 15) (cf 16) (cf 17) (cf 18) (ci 25) (ci 26) (ci 27) (ci 66) (ci 67) (cf 49) (cf 50) (cf 51) (cf 53) (cf 54) (ci 0) = some o ∧ f_X12_depthBy x1 x2 (mi 0) (mi 1) (mi 2) (ri 2) (ri 3) (rf 0) (rf 1) (rf 2) (rf 4) (rf 5) (mf 1) (mf 5) (mf 6) (mf 7) (mf 8) (mi 13) = some q ∧ o.1 = q.1 ∧ rlT (cap + 1) (up ci [(0, o.2.2.2.2.2.2.2.2.2), (25, o.2.2.2.2.2.2.1), (26, o.2.2.2.2.2.2.2.1), (27, o.2.2.2.2.2.2.2.2.1)]) (up cf [(14, o.2.1), (15, o.2.2.1), (16, o.2.2.2.1), (17, o.2.2.2.2.1), (18, o.2.2.2.2.2.1)]) (up mi [(0, q.2.1), (1, q.2.2.1), (2, q.2.2.2.1), (13, q.2.2.2.2.2.2.2.2)]) (up mf [(5, q.2.2.2.2.1), (6, q.2.2.2.2.2.1), (7, q.2.2.2.2.2.2.1), (8, q.2.2.2.2.2.2.2.1)]) ri rf kl kb kf ks kw mlM mbM mfM msM mwM := by
  obtain ⟨R, l, hC, hR, D, D2, hN, hM, hK⟩ := hr
  obtain ⟨d64, d65, d66, d67, d68, d69, d70, d71, dk, dw, db, hm, da, du, hb, hs, hbw, hbd⟩ := id D
  obtain ⟨r0, r1, r2, r3, r4, r5, r6, r7, ek, ew, eb, hm2, ea, eu, hb2, hs2, hbw2, hbd2⟩ := id D2
  have T : tR R (cf 49) (cf 50) (cf 51) (cf 53) (cf 54) := ⟨dk, dw, db, da, du⟩
  have T2 : tR R (rf 0) (rf 1) (rf 2) (rf 4) (rf 5) := ⟨ek, ew, eb, ea, eu⟩
  obtain ⟨⟨L, U, f, sd, V⟩, ⟨a18, a19, a20, a21, hwr⟩, hv, ⟨hL, hU, hdj, hsd, hVc⟩, hf9⟩ := id hN
  replace a18 : ci 18 = nI L := a18
  replace a19 : ci 19 = nI U := a19
  replace a20 : ci 20 = nI f := a20
  replace a21 : ci 21 = nI sd := a21
  replace hwr : rw_ (R 0 1) (cf 13) V := hwr
  replace hv : vR (R 0 1) (mf 1) L U f sd V := hv
  replace hL : L < 2 ^ R 0 1 := hL
  replace hU : U < 2 ^ R 0 1 := hU
  replace hdj : dj L U := hdj
  replace hsd : sd ≤ 65536 := hsd
  replace hVc : ∀ j, j < R 0 1 → V j ≤ cap := hVc
  replace hf9 : f ≤ 999 := hf9
  have hV : ∀ j, j < R 0 1 → V j < 2 ^ 20 := fun j hj => Nat.lt_of_le_of_lt (hVc j hj) (Nat.lt_trans hcap (by decide))
  have hf : f < 2 ^ 16 := Nat.lt_of_le_of_lt hf9 (by decide)
  have hq : qOK R cap (L, U, sd, V) := ⟨hL, hU, hdj, hsd, hVc⟩
  rw [a18, d66, d67, r2, r3]
  obtain ⟨ans, t, ⟨w, co, de, sp, ha, be, al, si, e1⟩, wi, wa, de2, sp2, be2, e2⟩ := j_depthBy hR hL T T2 hv x1 x2 (cf 14) (cf 15) (cf 16) (cf 17) (cf 18) (ci 25) (ci 26) (ci 27) (ci 0) (mi 0) (mi 1) (mi 2) (mf 5) (mf 6) (mf 7) (mf 8) (mi 13)
  have h4 : ¬ t = 4 := nt_depthBy _ _ _ _ _ _ _ _ _ _ _ _ _ _ _ _ _ _ _  _ e1
  exact ⟨_, _, e1, e2, rfl, R, l, ⟨hC.1, hC.2.1, rfl, wh_n h4 rfl, hC.2.2.2.2⟩, hR, D, D2, nowE_up (Nat.le_succ _) hN, memE_up (Nat.le_succ _) hM, mrkE_up (Nat.le_succ _) hK⟩
set_option maxHeartbeats 2000000 in
theorem pU_13 {ci : Nat → Int32} {cf : Nat → Nat → Int32} {mi : Nat → Int32} {mf : Nat → Nat → Int32} (hr : rlU ci cf mi mf) (x1 x2 : Int32) : ∃ o q, f_X10_depthBy x1 x2 (ci 18) (cf 14) (cf 15) (cf 16) (cf 17) (cf 18) (ci 25) (ci 26) (ci 27) (ci 66) (ci 67) (cf 49) (cf 50) (cf 51) (cf 53) (cf 54) (ci 0) = some o ∧ f_X12_depthByN x1 x2 (mi 0) (mi 1) (mi 2) (mf 7) = some q ∧ o.1 = q.1 ∧ rlU (up ci [(0, o.2.2.2.2.2.2.2.2.2), (25, o.2.2.2.2.2.2.1), (26, o.2.2.2.2.2.2.2.1), (27, o.2.2.2.2.2.2.2.2.1)]) (up cf [(14, o.2.1), (15, o.2.2.1), (16, o.2.2.2.1), (17, o.2.2.2.2.1), (18, o.2.2.2.2.2.1)]) (up mi [(0, q.2.1), (1, q.2.2.1), (2, q.2.2.2)]) mf := by
  obtain ⟨hC, u20, u21, u23, u24, u64, u65, u66, u67, u68, u69, u70⟩ := hr
  rw [u66, u67]
  obtain ⟨o, e1, h1, h2⟩ := n_depthBy x1 x2 (ci 18) (cf 14) (cf 15) (cf 16) (cf 17) (cf 18) (ci 25) (ci 26) (ci 27) (cf 49) (cf 50) (cf 51) (cf 53) (cf 54) (ci 0)
  exact ⟨o, _, e1, q_depthBy _ _ _ _ _ _ , h1, ⟨hC.1, hC.2.1, h2.symm, wh_n (ne4_1 h2) rfl, hC.2.2.2.2⟩, u20, u21, u23, u24, u64, u65, u66, u67, u68, u69, u70⟩
set_option maxHeartbeats 2000000 in
theorem pT_14 {cap : Nat} (hcap : cap < 2 ^ 15) {ci : Nat → Int32} {cf : Nat → Nat → Int32} {mi : Nat → Int32} {mf : Nat → Nat → Int32} {ri : Nat → Int32} {rf : Nat → Nat → Int32} {kl kb kf ks : Nat → Int32} {kw : Nat → Nat → Int32} {mlM mbM mfM msM : Nat → Int32} {mwM : Nat → Nat → Int32} (hr : rlT cap ci cf mi mf ri rf kl kb kf ks kw mlM mbM mfM msM mwM) (x1 : Int32) : ∃ o q, f_X10_harmBy x1 (ci 18) (cf 14) (cf 15) (cf 16) (cf 17) (cf 18) (ci 25) (ci 26) (ci 27) (ci 66) (ci 67) (cf 49) (cf 50) (cf 51) (cf 53) (cf 54) (ci 0) = some o ∧ f_X12_harmBy x1 (mi 0) (mi 1) (mi 2) (ri 2) (ri 3) (rf 0) (rf 1) (rf 2) (rf 4) (rf 5) (mf 1) (mf 5) (mf 6) (mf 7) (mf 8) (mi 13) = some q ∧ o.1 = q.1 ∧ rlT (cap + 1) (up ci [(0, o.2.2.2.2.2.2.2.2.2), (25, o.2.2.2.2.2.2.1), (26, o.2.2.2.2.2.2.2.1), (27, o.2.2.2.2.2.2.2.2.1)]) (up cf [(14, o.2.1), (15, o.2.2.1), (16, o.2.2.2.1), (17, o.2.2.2.2.1), (18, o.2.2.2.2.2.1)]) (up mi [(0, q.2.1), (1, q.2.2.1), (2, q.2.2.2.1), (13, q.2.2.2.2.2.2.2.2)]) (up mf [(5, q.2.2.2.2.1), (6, q.2.2.2.2.2.1), (7, q.2.2.2.2.2.2.1), (8, q.2.2.2.2.2.2.2.1)]) ri rf kl kb kf ks kw mlM mbM mfM msM mwM := by
  obtain ⟨R, l, hC, hR, D, D2, hN, hM, hK⟩ := hr
  obtain ⟨d64, d65, d66, d67, d68, d69, d70, d71, dk, dw, db, hm, da, du, hb, hs, hbw, hbd⟩ := id D
  obtain ⟨r0, r1, r2, r3, r4, r5, r6, r7, ek, ew, eb, hm2, ea, eu, hb2, hs2, hbw2, hbd2⟩ := id D2
  have T : tR R (cf 49) (cf 50) (cf 51) (cf 53) (cf 54) := ⟨dk, dw, db, da, du⟩
  have T2 : tR R (rf 0) (rf 1) (rf 2) (rf 4) (rf 5) := ⟨ek, ew, eb, ea, eu⟩
  obtain ⟨⟨L, U, f, sd, V⟩, ⟨a18, a19, a20, a21, hwr⟩, hv, ⟨hL, hU, hdj, hsd, hVc⟩, hf9⟩ := id hN
  replace a18 : ci 18 = nI L := a18
  replace a19 : ci 19 = nI U := a19
  replace a20 : ci 20 = nI f := a20
  replace a21 : ci 21 = nI sd := a21
  replace hwr : rw_ (R 0 1) (cf 13) V := hwr
  replace hv : vR (R 0 1) (mf 1) L U f sd V := hv
  replace hL : L < 2 ^ R 0 1 := hL
  replace hU : U < 2 ^ R 0 1 := hU
  replace hdj : dj L U := hdj
  replace hsd : sd ≤ 65536 := hsd
  replace hVc : ∀ j, j < R 0 1 → V j ≤ cap := hVc
  replace hf9 : f ≤ 999 := hf9
  have hV : ∀ j, j < R 0 1 → V j < 2 ^ 20 := fun j hj => Nat.lt_of_le_of_lt (hVc j hj) (Nat.lt_trans hcap (by decide))
  have hf : f < 2 ^ 16 := Nat.lt_of_le_of_lt hf9 (by decide)
  have hq : qOK R cap (L, U, sd, V) := ⟨hL, hU, hdj, hsd, hVc⟩
  rw [a18, d66, d67, r2, r3]
  obtain ⟨ans, t, ⟨w, co, de, sp, ha, be, al, si, e1⟩, wi, wa, de2, sp2, be2, e2⟩ := j_harmBy hR hL T T2 hv x1 (cf 14) (cf 15) (cf 16) (cf 17) (cf 18) (ci 25) (ci 26) (ci 27) (ci 0) (mi 0) (mi 1) (mi 2) (mf 5) (mf 6) (mf 7) (mf 8) (mi 13)
  have h4 : ¬ t = 4 := nt_harmBy _ _ _ _ _ _ _ _ _ _ _ _ _ _ _ _ _ _  _ e1
  exact ⟨_, _, e1, e2, rfl, R, l, ⟨hC.1, hC.2.1, rfl, wh_n h4 rfl, hC.2.2.2.2⟩, hR, D, D2, nowE_up (Nat.le_succ _) hN, memE_up (Nat.le_succ _) hM, mrkE_up (Nat.le_succ _) hK⟩
set_option maxHeartbeats 2000000 in
theorem pU_14 {ci : Nat → Int32} {cf : Nat → Nat → Int32} {mi : Nat → Int32} {mf : Nat → Nat → Int32} (hr : rlU ci cf mi mf) (x1 : Int32) : ∃ o q, f_X10_harmBy x1 (ci 18) (cf 14) (cf 15) (cf 16) (cf 17) (cf 18) (ci 25) (ci 26) (ci 27) (ci 66) (ci 67) (cf 49) (cf 50) (cf 51) (cf 53) (cf 54) (ci 0) = some o ∧ f_X12_harmByN x1 (mi 0) (mi 1) (mi 2) = some q ∧ o.1 = q.1 ∧ rlU (up ci [(0, o.2.2.2.2.2.2.2.2.2), (25, o.2.2.2.2.2.2.1), (26, o.2.2.2.2.2.2.2.1), (27, o.2.2.2.2.2.2.2.2.1)]) (up cf [(14, o.2.1), (15, o.2.2.1), (16, o.2.2.2.1), (17, o.2.2.2.2.1), (18, o.2.2.2.2.2.1)]) (up mi [(0, q.2.1), (1, q.2.2.1), (2, q.2.2.2)]) mf := by
  obtain ⟨hC, u20, u21, u23, u24, u64, u65, u66, u67, u68, u69, u70⟩ := hr
  rw [u66, u67]
  obtain ⟨o, e1, h1, h2⟩ := n_harmBy x1 (ci 18) (cf 14) (cf 15) (cf 16) (cf 17) (cf 18) (ci 25) (ci 26) (ci 27) (cf 49) (cf 50) (cf 51) (cf 53) (cf 54) (ci 0)
  exact ⟨o, _, e1, q_harmBy _ _ _ _ , h1, ⟨hC.1, hC.2.1, h2.symm, wh_n (ne4_1 h2) rfl, hC.2.2.2.2⟩, u20, u21, u23, u24, u64, u65, u66, u67, u68, u69, u70⟩
