/-! centuries -/
def yrs (R : Nat → Nat → Nat) (q : (Nat × Nat × Nat × (Nat → Nat))) : Nat → (Nat × Nat × Nat × (Nat → Nat))
  | 0 => q
  | n + 1 => yS1 R (yrs R q n)
def yHs (R : Nat → Nat → Nat) (q : (Nat × Nat × Nat × (Nat → Nat))) (n : Nat) : Nat := sm (fun i => yH R (yrs R q i)) n
def yF (R : Nat → Nat → Nat) (q : (Nat × Nat × Nat × (Nat → Nat))) : Nat → Nat
  | 0 => 0
  | n + 1 => if yF R q n = 0 ∧ ¬ ySp R (yrs R q n) = 0 then n + 1 else yF R q n
theorem yF_le (R : Nat → Nat → Nat) (q : (Nat × Nat × Nat × (Nat → Nat))) : ∀ n, yF R q n ≤ n
  | 0 => Nat.le_refl _
  | n + 1 => by
    have := yF_le R q n
    simp only [yF]
    split <;> omega
theorem qOK_n {R : Nat → Nat → Nat} (hR : rvOK R) {c : Nat} {q : (Nat × Nat × Nat × (Nat → Nat))} (h : qOK R c q) : ∀ n, qOK R (c + n) (yrs R q n)
  | 0 => h
  | n + 1 => qOK_y hR (qOK_n hR h n)
theorem s_copy (a1 a2 a3 a4 : Int32) (a5 : Nat → Int32) (b1 b2 b3 b4 : Int32) (b5 : Nat → Int32) : ∃ w, f_X7_copy a1 a2 a3 a4 a5 b1 b2 b3 b4 b5 = some (b1, b2, b3, b4, w) ∧ ∀ j, j < 7 → w j = b5 j := by
  unfold f_X7_copy
  refine loopK2 (A_1 := Int32) (A_2 := (Nat → Int32)) (F := fun n s_1 s_2 => f_X7_copy_L34 (fun w => some (b1, b2, b3, b4, w)) b5 n s_1 s_2) (P := fun i s_1 s_2 => s_1 = nI i ∧ ∀ j, j < i → s_2 j = b5 j) (a := 0) (N := 7) (fuel := 2000) (i_1 := 0) (i_2 := a5) ?_ (Nat.zero_le _) ?_ (by omega) ⟨rfl, fun j h => absurd h (by omega)⟩
  · rintro m y1 y2 ⟨z1, z2⟩ e
    (try dsimp only at z1 z2 e)
    subst z1
    exact ⟨y2, by rw [e, f_X7_copy_L34, if_pos (show (7 : Int32) ≤ nI 7 from by decide)], z2⟩
  · rintro m i y1 y2 - hi ⟨z1, z2⟩
    (try dsimp only at z1 z2 ⊢)
    subst z1
    rw [f_X7_copy_L34, if_neg (show ¬ (7 : Int32) ≤ nI i from nI_ge (b := 7) (by omega) (by decide)), inb_nI (show i < 7 by omega) (by decide), gd_true, nm_eq, gd_true, nm_eq, nI_clamp (show i < 2 ^ 31 by omega), nI_1]
    refine ⟨_, _, rfl, ⟨rfl, fun j hj => ?_⟩⟩
    (try dsimp only)
    by_cases e : j = i
    · subst e; rw [upd_s]
    · rw [upd_n _ _ e]; exact z2 j (by omega)
theorem m_tries (v x : Nat → Int32) : ∃ x', f_X12_tries v x = some x' ∧ ∀ j, j < 16 → x' j = v j := by
  unfold f_X12_tries
  refine loopK2 (A_1 := Int32) (A_2 := (Nat → Int32)) (F := fun n s_1 s_2 => f_X12_tries_L2 (fun w => some w) v n s_1 s_2) (P := fun i s_1 s_2 => s_1 = nI i ∧ ∀ j, j < i → s_2 j = v j) (a := 0) (N := 16) (fuel := 2000) (i_1 := 0) (i_2 := x) ?_ (Nat.zero_le _) ?_ (by omega) ⟨rfl, fun j h => absurd h (by omega)⟩
  · rintro m y1 y2 ⟨z1, z2⟩ e
    (try dsimp only at z1 z2 e)
    subst z1
    exact ⟨y2, by rw [e, f_X12_tries_L2, if_pos (show (16 : Int32) ≤ nI 16 from by decide)], z2⟩
  · rintro m i y1 y2 - hi ⟨z1, z2⟩
    (try dsimp only at z1 z2 ⊢)
    subst z1
    rw [f_X12_tries_L2, if_neg (show ¬ (16 : Int32) ≤ nI i from nI_ge (b := 16) (by omega) (by decide)), inb_nI (show i < 16 by omega) (by decide), gd_true, nm_eq, gd_true, nm_eq, nI_clamp (show i < 2 ^ 31 by omega), nI_1]
    refine ⟨_, _, rfl, ⟨rfl, fun j hj => ?_⟩⟩
    (try dsimp only)
    by_cases e : j = i
    · subst e; rw [upd_s]
    · rw [upd_n _ _ e]; exact z2 j (by omega)
theorem vR_same {k : Nat} (hk : k ≤ 7) {v x : Nat → Int32} {L U f sd : Nat} {V : Nat → Nat} (h : vR k v L U f sd V) (hx : ∀ j, j < 16 → x j = v j) : vR k x L U f sd V :=
  ⟨fun j hj => by rw [hx j (by omega)]; exact h.1 j hj, fun j hj => by rw [hx (7 + j) (by omega)]; exact h.2.1 j hj, by rw [hx 14 (by omega)]; exact h.2.2.1, by rw [hx 15 (by omega)]; exact h.2.2.2⟩
theorem vR_seed {k : Nat} (hk : k ≤ 7) {v : Nat → Int32} {L U f sd s : Nat} {V : Nat → Nat} (h : vR k v L U f sd V) : vR k (upd v 15 (nI s)) L U f s V :=
  ⟨fun j hj => by rw [upd_n _ _ (by omega)]; exact h.1 j hj, fun j hj => by rw [upd_n _ _ (by omega)]; exact h.2.1 j hj, by rw [upd_n _ _ (by omega)]; exact h.2.2.1, upd_s _ _ _⟩
theorem s_pass {R : Nat → Nat → Nat} (hR : rvOK R) {c : Nat} (hc : c < 2 ^ 15) {L U sd s f n : Nat} {V : Nat → Nat} (hq : qOK R c (L, U, s, V)) (hn60 : n ≤ 60) {kind wide bank at_ pulls : Nat → Int32} (T : tR R kind wide bank at_ pulls) {bears wear : Nat → Int32} (hb : rw_ (R 0 1) bears (R 6)) (hwr : rw_ (R 0 1) wear V) (w co de sp ha : Nat → Int32) (be al si t1 t2 t3 t4 : Int32) (t5 : Nat → Int32) (h0 f0 : Int32) :
    ∃ w' co' de' sp' ha' be' al' si' u3 u4 u5, f_X0_pass (nI s) (nI n) w co de sp ha be al si t1 t2 t3 t4 t5 h0 f0 (nI (R 0 4)) (nI (R 0 0)) (nI (R 0 1)) kind wide bank at_ pulls bears (nI L) (nI U) (nI f) (nI sd) wear = some (w', co', de', sp', ha', be', al', si', nI (yrs R (L, U, s, V) n).1, nI (yrs R (L, U, s, V) n).2.1, u3, u4, u5, nI (yHs R (L, U, s, V) n), nI (yF R (L, U, s, V) n)) := by
  have hk := hR.1.2.2.1
  have hn6 := hR.1.2.1
  obtain ⟨wc, ec, hwc⟩ := s_copy t1 t2 t3 t4 t5 (nI L) (nI U) (nI f) (nI sd) wear
  unfold f_X0_pass
  rw [ec, bind_some']
  (try dsimp only)
  refine loopK16 (A_1 := Int32) (A_2 := (Nat → Int32)) (A_3 := (Nat → Int32)) (A_4 := (Nat → Int32)) (A_5 := (Nat → Int32)) (A_6 := (Nat → Int32)) (A_7 := Int32) (A_8 := Int32) (A_9 := Int32) (A_10 := Int32) (A_11 := Int32) (A_12 := Int32) (A_13 := Int32) (A_14 := (Nat → Int32)) (A_15 := Int32) (A_16 := Int32) (F := fun k s_1 s_2 s_3 s_4 s_5 s_6 s_7 s_8 s_9 s_10 s_11 s_12 s_13 s_14 s_15 s_16 => f_X0_pass_L29 (fun x1 x2 x3 x4 x5 x6 x7 x8 x9 x10 x11 x12 x13 x14 x15 => some (x1, x2, x3, x4, x5, x6, x7, x8, x9, x10, x11, x12, x13, x14, x15)) (nI n) (nI (R 0 4)) (nI (R 0 0)) (nI (R 0 1)) kind wide bank at_ pulls bears k s_1 s_2 s_3 s_4 s_5 s_6 s_7 s_8 s_9 s_10 s_11 s_12 s_13 s_14 s_15 s_16) (P := fun i s_1 s_2 s_3 s_4 s_5 s_6 s_7 s_8 s_9 s_10 s_11 s_12 s_13 s_14 s_15 s_16 => s_1 = nI (i + 1) ∧ s_10 = nI (yrs R (L, U, s, V) i).1 ∧ s_11 = nI (yrs R (L, U, s, V) i).2.1 ∧ s_13 = nI (yrs R (L, U, s, V) i).2.2.1 ∧ rw_ (R 0 1) s_14 (yrs R (L, U, s, V) i).2.2.2 ∧ s_15 = nI (yHs R (L, U, s, V) i) ∧ s_16 = nI (yF R (L, U, s, V) i)) (a := 0) (N := n) (fuel := 2000) (i_1 := 1) (i_2 := w) (i_3 := co) (i_4 := de) (i_5 := sp) (i_6 := ha) (i_7 := be) (i_8 := al) (i_9 := si) (i_10 := nI L) (i_11 := nI U) (i_12 := nI f) (i_13 := nI s) (i_14 := wc) (i_15 := 0) (i_16 := 0) ?_ (Nat.zero_le _) ?_ (by omega) ⟨rfl, rfl, rfl, rfl, fun j hj => by rw [hwc j (by omega)]; exact hwr j hj, rfl, rfl⟩
  · rintro m y1 y2 y3 y4 y5 y6 y7 y8 y9 y10 y11 y12 y13 y14 y15 y16 ⟨z1, z2, z3, z4, z5, z6, z7⟩ e
    (try dsimp only at z1 z2 z3 z4 z5 z6 z7 e)
    subst z1; subst z2; subst z3; subst z4; subst z6; subst z7
    rw [e, f_X0_pass_L29, if_pos (nI_lt (by omega) (by omega))]
    exact ⟨_, _, _, _, _, _, _, _, _, _, _, rfl⟩
  · rintro m i y1 y2 y3 y4 y5 y6 y7 y8 y9 y10 y11 y12 y13 y14 y15 y16 - hi ⟨z1, z2, z3, z4, z5, z6, z7⟩
    (try dsimp only at z1 z2 z3 z4 z5 z6 z7 ⊢)
    subst z1; subst z2; subst z3; subst z4; subst z6; subst z7
    obtain ⟨c1, c2, c3, c4, c5, c6, c7, c8, e, hw'⟩ := s_passYear hR (c := c + i) (by omega) (qOK_n hR hq i) T hb z5 y2 y3 y4 y5 y6 y7 y8 y9 y12
    have hyl := yF_le R (L, U, s, V) i
    have hsp : ySp R (yrs R (L, U, s, V) i) < 2 ^ 31 := bs6 (by omega)
    rw [f_X0_pass_L29, if_neg (nI_nlt (by omega) (by omega)), e, bind_some', nI_1]
    (try dsimp only)
    rw [nm_eq, nI_add]
    simp only [nI_z (show yF R (L, U, s, V) i < 2 ^ 31 by omega), nI_z hsp]
    by_cases h0 : yF R (L, U, s, V) i = 0
    · rw [if_pos h0]
      by_cases h1 : ySp R (yrs R (L, U, s, V) i) = 0
      · rw [if_pos h1]
        refine ⟨_, _, _, _, _, _, _, _, _, _, _, _, _, _, _, _, rfl, ⟨rfl, rfl, rfl, rfl, hw', rfl, ?_⟩⟩
        (try dsimp only); rw [yF, if_neg (fun h => h.2 h1)]
      · rw [if_neg h1]
        refine ⟨_, _, _, _, _, _, _, _, _, _, _, _, _, _, _, _, rfl, ⟨rfl, rfl, rfl, rfl, hw', rfl, ?_⟩⟩
        (try dsimp only); rw [yF, if_pos ⟨h0, h1⟩]
    · rw [if_neg h0]
      refine ⟨_, _, _, _, _, _, _, _, _, _, _, _, _, _, _, _, rfl, ⟨rfl, rfl, rfl, rfl, hw', rfl, ?_⟩⟩
      (try dsimp only); rw [yF, if_neg (fun h => h0 h.1)]
theorem m_goOn {R : Nat → Nat → Nat} (hR : rvOK R) {c : Nat} (hc : c < 2 ^ 15) {L U sd s f n : Nat} {V : Nat → Nat} (hq : qOK R c (L, U, s, V)) (hn60 : n ≤ 60) {kind wide bank at_ pulls : Nat → Int32} (T : tR R kind wide bank at_ pulls) {bears v : Nat → Int32} (hb : rw_ (R 0 1) bears (R 6)) (hv : vR (R 0 1) v L U f sd V) (x wi wa de sp : Nat → Int32) (be f0 : Int32) :
    ∃ x' wi' wa' de' sp' be', f_X12_goOnYears (nI s) (nI n) (nI (R 0 4)) (nI (R 0 0)) (nI (R 0 1)) kind wide bank at_ pulls bears v x wi wa de sp be f0 = some (nI (yHs R (L, U, s, V) n), x', wi', wa', de', sp', be', nI (yF R (L, U, s, V) n)) ∧ f_X12_ropesIn 2 (nI (R 0 1)) x' = some (nI (yrs R (L, U, s, V) n).2.1) := by
  have hk := hR.1.2.2.1
  have hn6 := hR.1.2.1
  obtain ⟨xc, ec, hxc⟩ := m_tries v x
  have hv1 := vR_seed hk (s := s) (vR_same hk hv hxc)
  unfold f_X12_goOnYears
  rw [ec, bind_some', show inb 15 16 = true by decide, gd_true, nm_eq, show (15 : Int32).toNatClampNeg = 15 from rfl]
  refine loopK9 (A_1 := Int32) (A_2 := Int32) (A_3 := (Nat → Int32)) (A_4 := (Nat → Int32)) (A_5 := (Nat → Int32)) (A_6 := (Nat → Int32)) (A_7 := (Nat → Int32)) (A_8 := Int32) (A_9 := Int32) (F := fun k s_1 s_2 s_3 s_4 s_5 s_6 s_7 s_8 s_9 => f_X12_goOnYears_L22 (fun x1 x2 x3 x4 x5 x6 x7 x8 => some (x1, x2, x3, x4, x5, x6, x7, x8)) (nI n) (nI (R 0 4)) (nI (R 0 0)) (nI (R 0 1)) kind wide bank at_ pulls bears k s_1 s_2 s_3 s_4 s_5 s_6 s_7 s_8 s_9) (P := fun i s_1 s_2 s_3 s_4 s_5 s_6 s_7 s_8 s_9 => s_2 = nI (i + 1) ∧ s_1 = nI (yHs R (L, U, s, V) i) ∧ (∃ f', vR (R 0 1) s_3 (yrs R (L, U, s, V) i).1 (yrs R (L, U, s, V) i).2.1 f' (yrs R (L, U, s, V) i).2.2.1 (yrs R (L, U, s, V) i).2.2.2) ∧ s_9 = nI (yF R (L, U, s, V) i)) (a := 0) (N := n) (fuel := 2000) (i_1 := 0) (i_2 := 1) (i_3 := upd xc 15 (nI s)) (i_4 := wi) (i_5 := wa) (i_6 := de) (i_7 := sp) (i_8 := be) (i_9 := 0) ?_ (Nat.zero_le _) ?_ (by omega) ⟨rfl, rfl, ⟨f, hv1⟩, rfl⟩
  · rintro m y1 y2 y3 y4 y5 y6 y7 y8 y9 ⟨z1, z2, ⟨f', z3⟩, z4⟩ e
    (try dsimp only at z1 z2 z3 z4 e)
    subst z1; subst z2; subst z4
    obtain ⟨g1, g2, g3, g4, g5⟩ := qOK_n hR hq n
    refine ⟨y3, y4, y5, y6, y7, y8, ?_, vR_burst hk z3 g2 g3⟩
    rw [e, f_X12_goOnYears_L22, if_pos (nI_lt (by omega) (by omega))]
  · rintro m i y1 y2 y3 y4 y5 y6 y7 y8 y9 - hi ⟨z1, z2, ⟨f', z3⟩, z4⟩
    (try dsimp only at z1 z2 z3 z4 ⊢)
    subst z1; subst z2; subst z4
    obtain ⟨c1, c2, c3, c4, c5, c6, e, hv', hs'⟩ := m_goesBy hR (c := c + i) (by omega) (qOK_n hR hq i) T hb z3 y4 y5 y6 y7 y8
    have hyl := yF_le R (L, U, s, V) i
    have hsp : ySp R (yrs R (L, U, s, V) i) < 2 ^ 31 := bs6 (by omega)
    rw [f_X12_goOnYears_L22, if_neg (nI_nlt (by omega) (by omega)), e, bind_some', nI_1]
    (try dsimp only)
    rw [nm_eq, nI_add, hs', bind_some']
    simp only [nI_z (show yF R (L, U, s, V) i < 2 ^ 31 by omega), nI_z hsp]
    by_cases h0 : yF R (L, U, s, V) i = 0
    · rw [if_pos h0]
      by_cases h1 : ySp R (yrs R (L, U, s, V) i) = 0
      · rw [if_pos h1]
        refine ⟨_, _, _, _, _, _, _, _, _, rfl, ⟨rfl, rfl, ⟨_, hv'⟩, ?_⟩⟩
        (try dsimp only); rw [yF, if_neg (fun h => h.2 h1)]
      · rw [if_neg h1]
        refine ⟨_, _, _, _, _, _, _, _, _, rfl, ⟨rfl, rfl, ⟨_, hv'⟩, ?_⟩⟩
        (try dsimp only); rw [yF, if_pos ⟨h0, h1⟩]
    · rw [if_neg h0]
      refine ⟨_, _, _, _, _, _, _, _, _, rfl, ⟨rfl, rfl, ⟨_, hv'⟩, ?_⟩⟩
      (try dsimp only); rw [yF, if_neg (fun h => h0 h.1)]
theorem isYears_or (p : Int32) : (f_X10_isYears p = some 0 ∧ f_X12_in p 0 60 = some 0) ∨ (∃ x, x ≤ 60 ∧ p = nI x ∧ f_X10_isYears p = some 1 ∧ f_X12_in p 0 60 = some 1) := by
  unfold f_X10_isYears f_X12_in
  by_cases h : p < 0
  · left; rw [if_pos h]; exact ⟨rfl, rfl⟩
  · rw [if_neg h]
    by_cases h2 : 60 < p
    · left; rw [if_pos h2]; exact ⟨rfl, rfl⟩
    · right
      obtain ⟨x, hx, rfl⟩ := nat_of h
      refine ⟨x, ?_, rfl, ?_⟩
      · rw [i32_lt, nI_toInt hx] at h2
        have e1 : (60 : Int32).toInt = 60 := rfl
        omega
      · rw [if_neg h2]; exact ⟨rfl, rfl⟩
theorem j_century {R : Nat → Nat → Nat} (hR : rvOK R) {c : Nat} (hc : c < 2 ^ 15) {L U f sd : Nat} {V : Nat → Nat} (hq : qOK R c (L, U, sd, V)) {kind wide bank at_ pulls kind2 wide2 bank2 at2 pulls2 v : Nat → Int32} (T : tR R kind wide bank at_ pulls) (T2 : tR R kind2 wide2 bank2 at2 pulls2) (hv : vR (R 0 1) v L U f sd V) {bears bears2 wear : Nat → Int32} (hb : rw_ (R 0 1) bears (R 6)) (hb2 : rw_ (R 0 1) bears2 (R 6)) (hwr : rw_ (R 0 1) wear V) (p1 p2 : Int32) (w co de sp ha : Nat → Int32) (be al si t1 t2 t3 t4 : Int32) (t5 : Nat → Int32) (h0 f0 tr : Int32) (th tr2 wh : Int32) (x wi wa de2 sp2 : Nat → Int32) (be2 f2 : Int32) :
    ∃ o q, f_X10_century p1 p2 (nI L) (nI U) (nI f) (nI sd) wear w co de sp ha be al si t1 t2 t3 t4 t5 h0 f0 (nI (R 0 4)) (nI (R 0 0)) (nI (R 0 1)) kind wide bank at_ pulls bears tr = some o ∧ f_X12_century p1 p2 th tr2 wh (nI (R 0 4)) (nI (R 0 0)) (nI (R 0 1)) kind2 wide2 bank2 at2 pulls2 bears2 v x wi wa de2 sp2 be2 f2 = some q ∧ q.1 = o.1 ∧ q.2.1 = 0 ∧ q.2.2.1 = o.2.2.2.2.2.2.2.2.2.2.2.2.2.2.2.2 ∧ q.2.2.2.1 = -1 ∧ ¬ o.2.2.2.2.2.2.2.2.2.2.2.2.2.2.2.2 = 4 := by
  unfold f_X10_century f_X12_century f_X12_refusesYears
  rw [s_noRiver hR, bind_some', if_pos rfl]
  rcases isSeed_or p1 with ⟨a1, a2⟩ | ⟨s, hs, rfl, a1, a2⟩
  · rw [a1, a2]; exact ⟨_, _, rfl, rfl, rfl, rfl, rfl, rfl, by show ¬ (2 : Int32) = 4; decide⟩
  · rw [a1, a2, bind_some', bind_some', if_neg one_ne, if_neg one_ne]
    rcases isYears_or p2 with ⟨b1, b2⟩ | ⟨n, hn, rfl, b1, b2⟩
    · rw [b1, b2]; exact ⟨_, _, rfl, rfl, rfl, rfl, rfl, rfl, by show ¬ (2 : Int32) = 4; decide⟩
    · have hq' : qOK R c (L, U, s, V) := ⟨hq.1, hq.2.1, hq.2.2.1, hs, hq.2.2.2.2⟩
      obtain ⟨k1, k2, k3, k4, k5, k6, k7, k8, k9, k10, k11, e⟩ := s_pass hR hc hq' hn (sd := sd) (f := f) T hb hwr w co de sp ha be al si t1 t2 t3 t4 t5 h0 f0
      obtain ⟨m1, m2, m3, m4, m5, m6, em, em2⟩ := m_goOn hR hc hq' hn T2 hb2 hv x wi wa de2 sp2 be2 f2
      rw [b1, b2, bind_some', bind_some', if_neg one_ne, if_neg one_ne, bind_some', if_pos (show (0 : Int32) ≤ 0 by decide), e, bind_some', em, bind_some']
      skip
      exact ⟨_, _, rfl, rfl, rfl, rfl, rfl, rfl, by show ¬ (0 : Int32) = 4; decide⟩
theorem j_burstBy {R : Nat → Nat → Nat} (hR : rvOK R) {c : Nat} (hc : c < 2 ^ 15) {L U f sd : Nat} {V : Nat → Nat} (hq : qOK R c (L, U, sd, V)) {kind wide bank at_ pulls kind2 wide2 bank2 at2 pulls2 v : Nat → Int32} (T : tR R kind wide bank at_ pulls) (T2 : tR R kind2 wide2 bank2 at2 pulls2) (hv : vR (R 0 1) v L U f sd V) {bears bears2 wear : Nat → Int32} (hb : rw_ (R 0 1) bears (R 6)) (hb2 : rw_ (R 0 1) bears2 (R 6)) (hwr : rw_ (R 0 1) wear V) (p1 p2 : Int32) (w co de sp ha : Nat → Int32) (be al si t1 t2 t3 t4 : Int32) (t5 : Nat → Int32) (h0 f0 tr : Int32) (th tr2 wh : Int32) (x wi wa de2 sp2 : Nat → Int32) (be2 f2 : Int32) :
    ∃ o q, f_X10_burstBy p1 p2 (nI L) (nI U) (nI f) (nI sd) wear w co de sp ha be al si t1 t2 t3 t4 t5 h0 f0 (nI (R 0 4)) (nI (R 0 0)) (nI (R 0 1)) kind wide bank at_ pulls bears tr = some o ∧ f_X12_burstBy p1 p2 th tr2 wh (nI (R 0 4)) (nI (R 0 0)) (nI (R 0 1)) kind2 wide2 bank2 at2 pulls2 bears2 v x wi wa de2 sp2 be2 f2 = some q ∧ q.1 = o.1 ∧ q.2.1 = 0 ∧ q.2.2.1 = o.2.2.2.2.2.2.2.2.2.2.2.2.2.2.2.2 ∧ q.2.2.2.1 = -1 ∧ ¬ o.2.2.2.2.2.2.2.2.2.2.2.2.2.2.2.2 = 4 := by
  unfold f_X10_burstBy f_X12_burstBy f_X12_refusesYears
  rw [s_noRiver hR, bind_some', if_pos rfl]
  rcases isSeed_or p1 with ⟨a1, a2⟩ | ⟨s, hs, rfl, a1, a2⟩
  · rw [a1, a2]; exact ⟨_, _, rfl, rfl, rfl, rfl, rfl, rfl, by show ¬ (2 : Int32) = 4; decide⟩
  · rw [a1, a2, bind_some', bind_some', if_neg one_ne, if_neg one_ne]
    rcases isYears_or p2 with ⟨b1, b2⟩ | ⟨n, hn, rfl, b1, b2⟩
    · rw [b1, b2]; exact ⟨_, _, rfl, rfl, rfl, rfl, rfl, rfl, by show ¬ (2 : Int32) = 4; decide⟩
    · have hq' : qOK R c (L, U, s, V) := ⟨hq.1, hq.2.1, hq.2.2.1, hs, hq.2.2.2.2⟩
      obtain ⟨k1, k2, k3, k4, k5, k6, k7, k8, k9, k10, k11, e⟩ := s_pass hR hc hq' hn (sd := sd) (f := f) T hb hwr w co de sp ha be al si t1 t2 t3 t4 t5 h0 f0
      obtain ⟨m1, m2, m3, m4, m5, m6, em, em2⟩ := m_goOn hR hc hq' hn T2 hb2 hv x wi wa de2 sp2 be2 f2
      rw [b1, b2, bind_some', bind_some', if_neg one_ne, if_neg one_ne, bind_some', if_pos (show (0 : Int32) ≤ 0 by decide), e, bind_some', em, bind_some']
      (try dsimp only)
      rw [em2, bind_some']
      exact ⟨_, _, rfl, rfl, rfl, rfl, rfl, rfl, by show ¬ (0 : Int32) = 4; decide⟩
theorem j_firstFlood {R : Nat → Nat → Nat} (hR : rvOK R) {c : Nat} (hc : c < 2 ^ 15) {L U f sd : Nat} {V : Nat → Nat} (hq : qOK R c (L, U, sd, V)) {kind wide bank at_ pulls kind2 wide2 bank2 at2 pulls2 v : Nat → Int32} (T : tR R kind wide bank at_ pulls) (T2 : tR R kind2 wide2 bank2 at2 pulls2) (hv : vR (R 0 1) v L U f sd V) {bears bears2 wear : Nat → Int32} (hb : rw_ (R 0 1) bears (R 6)) (hb2 : rw_ (R 0 1) bears2 (R 6)) (hwr : rw_ (R 0 1) wear V) (p1 p2 : Int32) (w co de sp ha : Nat → Int32) (be al si t1 t2 t3 t4 : Int32) (t5 : Nat → Int32) (h0 f0 tr : Int32) (th tr2 wh : Int32) (x wi wa de2 sp2 : Nat → Int32) (be2 f2 : Int32) :
    ∃ o q, f_X10_firstFlood p1 p2 (nI L) (nI U) (nI f) (nI sd) wear w co de sp ha be al si t1 t2 t3 t4 t5 h0 f0 (nI (R 0 4)) (nI (R 0 0)) (nI (R 0 1)) kind wide bank at_ pulls bears tr = some o ∧ f_X12_firstFlood p1 p2 th tr2 wh (nI (R 0 4)) (nI (R 0 0)) (nI (R 0 1)) kind2 wide2 bank2 at2 pulls2 bears2 v x wi wa de2 sp2 be2 f2 = some q ∧ q.1 = o.1 ∧ q.2.1 = 0 ∧ q.2.2.1 = o.2.2.2.2.2.2.2.2.2.2.2.2.2.2.2.2 ∧ q.2.2.2.1 = -1 ∧ ¬ o.2.2.2.2.2.2.2.2.2.2.2.2.2.2.2.2 = 4 := by
  unfold f_X10_firstFlood f_X12_firstFlood f_X12_refusesYears
  rw [s_noRiver hR, bind_some', if_pos rfl]
  rcases isSeed_or p1 with ⟨a1, a2⟩ | ⟨s, hs, rfl, a1, a2⟩
  · rw [a1, a2]; exact ⟨_, _, rfl, rfl, rfl, rfl, rfl, rfl, by show ¬ (2 : Int32) = 4; decide⟩
  · rw [a1, a2, bind_some', bind_some', if_neg one_ne, if_neg one_ne]
    rcases isYears_or p2 with ⟨b1, b2⟩ | ⟨n, hn, rfl, b1, b2⟩
    · rw [b1, b2]; exact ⟨_, _, rfl, rfl, rfl, rfl, rfl, rfl, by show ¬ (2 : Int32) = 4; decide⟩
    · have hq' : qOK R c (L, U, s, V) := ⟨hq.1, hq.2.1, hq.2.2.1, hs, hq.2.2.2.2⟩
      obtain ⟨k1, k2, k3, k4, k5, k6, k7, k8, k9, k10, k11, e⟩ := s_pass hR hc hq' hn (sd := sd) (f := f) T hb hwr w co de sp ha be al si t1 t2 t3 t4 t5 h0 f0
      obtain ⟨m1, m2, m3, m4, m5, m6, em, em2⟩ := m_goOn hR hc hq' hn T2 hb2 hv x wi wa de2 sp2 be2 f2
      rw [b1, b2, bind_some', bind_some', if_neg one_ne, if_neg one_ne, bind_some', if_pos (show (0 : Int32) ≤ 0 by decide), e, bind_some', em, bind_some']
      skip
      exact ⟨_, _, rfl, rfl, rfl, rfl, rfl, rfl, by show ¬ (0 : Int32) = 4; decide⟩
/-- the year in which rope r is burst first -/
def yO (R : Nat → Nat → Nat) (q : (Nat × Nat × Nat × (Nat → Nat))) (r : Nat) : Nat → Nat
  | 0 => 0
  | n + 1 => if yO R q r n = 0 ∧ (yrs R q (n + 1)).2.1.testBit r = true then n + 1 else yO R q r n
theorem yO_up {R : Nat → Nat → Nat} {q : (Nat × Nat × Nat × (Nat → Nat))} {r n : Nat} (h : yO R q r n ≠ 0) : ∀ d, yO R q r (n + d) = yO R q r n
  | 0 => rfl
  | d + 1 => by
    have := yO_up h d
    show yO R q r ((n + d) + 1) = _
    rw [yO, if_neg (fun z => h (by rw [← this]; exact z.1)), this]
theorem yO_at {R : Nat → Nat → Nat} {q : (Nat × Nat × Nat × (Nat → Nat))} {r i N : Nat} (h0 : yO R q r i = 0) (hu : (yrs R q (i + 1)).2.1.testBit r = true) (hN : i < N) : yO R q r N = i + 1 := by
  have h1 : yO R q r (i + 1) = i + 1 := by rw [yO, if_pos ⟨h0, hu⟩]
  have := yO_up (R := R) (q := q) (r := r) (n := i + 1) (by omega) (N - (i + 1))
  rw [show i + 1 + (N - (i + 1)) = N by omega] at this
  rw [this, h1]
theorem j_yearOf {R : Nat → Nat → Nat} (hR : rvOK R) {c : Nat} (hc : c < 2 ^ 15) {L U f sd : Nat} {V : Nat → Nat} (hq : qOK R c (L, U, sd, V)) {kind wide bank at_ pulls kind2 wide2 bank2 at2 pulls2 v : Nat → Int32} (T : tR R kind wide bank at_ pulls) (T2 : tR R kind2 wide2 bank2 at2 pulls2) (hv : vR (R 0 1) v L U f sd V) {bears bears2 wear : Nat → Int32} (hb : rw_ (R 0 1) bears (R 6)) (hb2 : rw_ (R 0 1) bears2 (R 6)) (hwr : rw_ (R 0 1) wear V) (p1 p2 : Int32) (w co de sp ha : Nat → Int32) (be al si t1 t2 t3 t4 : Int32) (t5 : Nat → Int32) (tr : Int32) (th tr2 wh : Int32) (x wi wa de2 sp2 : Nat → Int32) (be2 : Int32) :
    ∃ o q, f_X10_yearOf p1 p2 (nI L) (nI U) (nI f) (nI sd) wear w co de sp ha be al si t1 t2 t3 t4 t5 (nI (R 0 4)) (nI (R 0 0)) (nI (R 0 1)) kind wide bank at_ pulls bears tr = some o ∧ f_X12_yearOf p1 p2 th tr2 wh (nI (R 0 4)) (nI (R 0 0)) (nI (R 0 1)) kind2 wide2 bank2 at2 pulls2 bears2 v x wi wa de2 sp2 be2 = some q ∧ q.1 = o.1 ∧ q.2.1 = 0 ∧ q.2.2.1 = o.2.2.2.2.2.2.2.2.2.2.2.2.2.2 ∧ q.2.2.2.1 = -1 ∧ ¬ o.2.2.2.2.2.2.2.2.2.2.2.2.2.2 = 4 := by
  have hk := hR.1.2.2.1
  have hL31 := pow_k hk hq.1
  unfold f_X10_yearOf f_X12_yearOf
  rcases isRope_or (show R 0 1 < 2 ^ 31 by omega) p1 with ⟨a1, a2⟩ | ⟨r, hr, rfl, a1, a2⟩
  · rw [a1, a2]; exact ⟨_, _, rfl, rfl, rfl, rfl, rfl, rfl, by show ¬ (1 : Int32) = 4; decide⟩
  · rw [a1, a2, bind_some', bind_some', if_neg one_ne, if_neg one_ne]
    rcases isSeed_or p2 with ⟨b1, b2⟩ | ⟨s, hs, rfl, b1, b2⟩
    · rw [b1, b2]; exact ⟨_, _, rfl, rfl, rfl, rfl, rfl, rfl, by show ¬ (2 : Int32) = 4; decide⟩
    · rw [b1, b2, bind_some', bind_some', if_neg one_ne, if_neg one_ne, isIn_nI hL31 (by omega), bind_some', show (0 : Int32) + nI r = nI r from (nI_add 0 r).trans (by rw [Nat.zero_add]), inb_nI (show r < 16 by omega) (by decide), gd_true, nI_clamp (show r < 2 ^ 31 by omega), hv.1 r hr]
      by_cases hl : L.testBit r = true
      · rw [if_pos hl, if_neg one_ne, if_pos hl, if_pos (show nI 1 = 1 from rfl)]
        have hq' : qOK R c (L, U, s, V) := ⟨hq.1, hq.2.1, hq.2.2.1, hs, hq.2.2.2.2⟩
        obtain ⟨wc, ec, hwc⟩ := s_copy t1 t2 t3 t4 t5 (nI L) (nI U) (nI f) (nI sd) wear
        obtain ⟨xc, exc, hxc⟩ := m_tries v x
        have hv1 := vR_seed hk (s := s) (vR_same hk hv hxc)
        unfold f_X0_burstYear
        rw [ec, bind_some', exc, bind_some', show inb 15 16 = true by decide, gd_true, nm_eq, show (15 : Int32).toNatClampNeg = 15 from rfl]
        (try dsimp only)
        have hC : ∃ w' co' de' sp' ha' be' al' si' u1 u2 u3 u4 u5, f_X0_burstYear_L19 (fun x1 x2 x3 x4 x5 x6 x7 x8 x9 x10 x11 x12 x13 => some (0, x1, x2, x3, x4, x5, x6, x7, x8, x9, x10, x11, x12, x13)) (nI r) (nI (R 0 4)) (nI (R 0 0)) (nI (R 0 1)) kind wide bank at_ pulls bears 2000 1 w co de sp ha be al si (nI L) (nI U) (nI f) (nI s) wc = some (nI (yO R (L, U, s, V) r 60), w', co', de', sp', ha', be', al', si', u1, u2, u3, u4, u5) := by
          refine loopX14 (A_1 := Int32) (A_2 := (Nat → Int32)) (A_3 := (Nat → Int32)) (A_4 := (Nat → Int32)) (A_5 := (Nat → Int32)) (A_6 := (Nat → Int32)) (A_7 := Int32) (A_8 := Int32) (A_9 := Int32) (A_10 := Int32) (A_11 := Int32) (A_12 := Int32) (A_13 := Int32) (A_14 := (Nat → Int32)) (F := fun k s_1 s_2 s_3 s_4 s_5 s_6 s_7 s_8 s_9 s_10 s_11 s_12 s_13 s_14 => f_X0_burstYear_L19 (fun x1 x2 x3 x4 x5 x6 x7 x8 x9 x10 x11 x12 x13 => some (0, x1, x2, x3, x4, x5, x6, x7, x8, x9, x10, x11, x12, x13)) (nI r) (nI (R 0 4)) (nI (R 0 0)) (nI (R 0 1)) kind wide bank at_ pulls bears k s_1 s_2 s_3 s_4 s_5 s_6 s_7 s_8 s_9 s_10 s_11 s_12 s_13 s_14) (P := fun i s_1 s_2 s_3 s_4 s_5 s_6 s_7 s_8 s_9 s_10 s_11 s_12 s_13 s_14 => s_1 = nI (i + 1) ∧ s_10 = nI (yrs R (L, U, s, V) i).1 ∧ s_11 = nI (yrs R (L, U, s, V) i).2.1 ∧ s_13 = nI (yrs R (L, U, s, V) i).2.2.1 ∧ rw_ (R 0 1) s_14 (yrs R (L, U, s, V) i).2.2.2 ∧ yO R (L, U, s, V) r i = 0) (Q := fun o => ∃ w' co' de' sp' ha' be' al' si' u1 u2 u3 u4 u5, o = some (nI (yO R (L, U, s, V) r 60), w', co', de', sp', ha', be', al', si', u1, u2, u3, u4, u5)) (a := 0) (N := 60) (fuel := 2000) (i_1 := 1) (i_2 := w) (i_3 := co) (i_4 := de) (i_5 := sp) (i_6 := ha) (i_7 := be) (i_8 := al) (i_9 := si) (i_10 := nI L) (i_11 := nI U) (i_12 := nI f) (i_13 := nI s) (i_14 := wc) (Nat.zero_le _) ?_ ?_ (by omega) ⟨rfl, rfl, rfl, rfl, fun j hj => by rw [hwc j (by omega)]; exact hwr j hj, rfl⟩
          · rintro m y1 y2 y3 y4 y5 y6 y7 y8 y9 y10 y11 y12 y13 y14 ⟨z1, z2, z3, z4, z5, z6⟩
            (try dsimp only at z1 z2 z3 z4 z5 z6 ⊢)
            subst z1
            rw [f_X0_burstYear_L19, if_pos (show (60 : Int32) < nI (60 + 1) from by decide), z6]
            exact ⟨_, _, _, _, _, _, _, _, _, _, _, _, _, rfl⟩
          · rintro m i y1 y2 y3 y4 y5 y6 y7 y8 y9 y10 y11 y12 y13 y14 - hi ⟨z1, z2, z3, z4, z5, z6⟩
            (try dsimp only at z1 z2 z3 z4 z5 z6 ⊢)
            subst z1; subst z2; subst z3; subst z4
            obtain ⟨c1, c2, c3, c4, c5, c6, c7, c8, e, hw'⟩ := s_passYear hR (c := c + i) (by omega) (qOK_n hR hq' i) T hb z5 y2 y3 y4 y5 y6 y7 y8 y9 y12
            have hU' := (qOK_n hR hq' (i + 1)).2.1
            rw [f_X0_burstYear_L19, if_neg (show ¬ (60 : Int32) < nI (i + 1) from nI_nlt (a := 60) (by omega) (by decide)), e, bind_some', nI_1]
            (try dsimp only)
            rw [show (yS1 R (yrs R (L, U, s, V) i)).2.1 = (yrs R (L, U, s, V) (i + 1)).2.1 from rfl, isIn_nI (pow_k hk hU') (by omega), bind_some']
            by_cases hu : (yrs R (L, U, s, V) (i + 1)).2.1.testBit r = true
            · left
              rw [if_pos hu, if_neg one_ne, yO_at z6 hu (by omega)]
              exact ⟨_, _, _, _, _, _, _, _, _, _, _, _, _, rfl⟩
            · right
              rw [if_neg hu, if_pos rfl]
              exact ⟨_, _, _, _, _, _, _, _, _, _, _, _, _, _, rfl, ⟨rfl, rfl, rfl, rfl, hw', by rw [yO, if_neg (fun h => hu h.2)]; exact z6⟩⟩
        obtain ⟨k1, k2, k3, k4, k5, k6, k7, k8, k9, k10, k11, k12, k13, e⟩ := hC
        rw [e, bind_some']
        refine loopX9 (A_1 := Int32) (A_2 := Int32) (A_3 := Int32) (A_4 := (Nat → Int32)) (A_5 := (Nat → Int32)) (A_6 := (Nat → Int32)) (A_7 := (Nat → Int32)) (A_8 := (Nat → Int32)) (A_9 := Int32) (F := fun k s_1 s_2 s_3 s_4 s_5 s_6 s_7 s_8 s_9 => f_X12_yearOf_L68 (fun x1 x2 x3 x4 x5 x6 x7 x8 => (f_X12_good 0 x1 x2).bind fun o15 => some (o15.1, 0, o15.2.1, o15.2.2, x3, x4, x5, x6, x7, x8)) (nI r) 0 (nI (R 0 4)) (nI (R 0 0)) (nI (R 0 1)) kind2 wide2 bank2 at2 pulls2 bears2 k s_1 s_2 s_3 s_4 s_5 s_6 s_7 s_8 s_9) (P := fun i s_1 s_2 s_3 s_4 s_5 s_6 s_7 s_8 s_9 => s_1 = nI (i + 1) ∧ (∃ f', vR (R 0 1) s_4 (yrs R (L, U, s, V) i).1 (yrs R (L, U, s, V) i).2.1 f' (yrs R (L, U, s, V) i).2.2.1 (yrs R (L, U, s, V) i).2.2.2) ∧ yO R (L, U, s, V) r i = 0) (Q := fun z => ∃ o q, (f_X10_answered (nI (yO R (L, U, s, V) r 60)) tr).bind (fun o8 => some (o8.1, k1, k2, k3, k4, k5, k6, k7, k8, k9, k10, k11, k12, k13, o8.2)) = some o ∧ z = some q ∧ q.1 = o.1 ∧ q.2.1 = 0 ∧ q.2.2.1 = o.2.2.2.2.2.2.2.2.2.2.2.2.2.2 ∧ q.2.2.2.1 = -1 ∧ ¬ o.2.2.2.2.2.2.2.2.2.2.2.2.2.2 = 4) (a := 0) (N := 60) (fuel := 2000) (i_1 := 1) (i_2 := tr2) (i_3 := wh) (i_4 := upd xc 15 (nI s)) (i_5 := wi) (i_6 := wa) (i_7 := de2) (i_8 := sp2) (i_9 := be2) (Nat.zero_le _) ?_ ?_ (by omega) ⟨rfl, ⟨f, hv1⟩, rfl⟩
        · rintro m y1 y2 y3 y4 y5 y6 y7 y8 y9 ⟨z1, -, z6⟩
          (try dsimp only at z1 z6 ⊢)
          subst z1
          rw [f_X12_yearOf_L68, if_pos (show (60 : Int32) < nI (60 + 1) from by decide), z6]
          exact ⟨_, _, rfl, rfl, rfl, rfl, rfl, rfl, by show ¬ (0 : Int32) = 4; decide⟩
        · rintro m i y1 y2 y3 y4 y5 y6 y7 y8 y9 - hi ⟨z1, ⟨f', z3⟩, z6⟩
          (try dsimp only at z1 z3 z6 ⊢)
          subst z1
          obtain ⟨c1, c2, c3, c4, c5, c6, e, hv', hs'⟩ := m_goesBy hR (c := c + i) (by omega) (qOK_n hR hq' i) T2 hb2 z3 y5 y6 y7 y8 y9
          have hv'' : vR (R 0 1) c6 (yrs R (L, U, s, V) (i + 1)).1 (yrs R (L, U, s, V) (i + 1)).2.1 (yFl R (yrs R (L, U, s, V) i)) (yrs R (L, U, s, V) (i + 1)).2.2.1 (yrs R (L, U, s, V) (i + 1)).2.2.2 := hv'
          have hdj' := (qOK_n hR hq' (i + 1)).2.2.1
          rw [f_X12_yearOf_L68, if_neg (show ¬ (60 : Int32) < nI (i + 1) from nI_nlt (a := 60) (by omega) (by decide)), e, bind_some', nI_1, show (0 : Int32) + nI r = nI r from (nI_add 0 r).trans (by rw [Nat.zero_add]), inb_nI (show r < 16 by omega) (by decide), gd_true, nI_clamp (show r < 2 ^ 31 by omega)]
          (try dsimp only)
          simp only [hv''.1 r hr]
          by_cases hu : (yrs R (L, U, s, V) (i + 1)).2.1.testBit r = true
          · left
            have nl : ¬ (yrs R (L, U, s, V) (i + 1)).1.testBit r = true := fun h => hdj' r h hu
            rw [if_neg nl, if_pos hu, if_pos (show nI 2 = 2 from rfl), yO_at z6 hu (by omega)]
            exact ⟨_, _, rfl, rfl, rfl, rfl, rfl, rfl, by show ¬ (0 : Int32) = 4; decide⟩
          · right
            rw [if_neg (show ¬ nI (if (yrs R (L, U, s, V) (i + 1)).1.testBit r = true then 1 else if (yrs R (L, U, s, V) (i + 1)).2.1.testBit r = true then 2 else 0) = 2 by rw [if_neg hu]; split <;> decide)]
            exact ⟨_, _, _, _, _, _, _, _, _, rfl, ⟨rfl, ⟨_, hv''⟩, by rw [yO, if_neg (fun h => hu h.2)]; exact z6⟩⟩
      · rw [if_neg hl, if_pos rfl, if_neg (show ¬ nI (if L.testBit r = true then 1 else if U.testBit r = true then 2 else 0) = 1 by rw [if_neg hl]; split <;> decide)]
        exact ⟨_, _, rfl, rfl, rfl, rfl, rfl, rfl, by show ¬ (5 : Int32) = 4; decide⟩
