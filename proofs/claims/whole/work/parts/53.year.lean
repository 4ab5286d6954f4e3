/-! years -/
/-- a year from ropes laced, burst, the seed and the wear -/
def ySd (q : (Nat × Nat × Nat × (Nat → Nat))) : Nat := (75 * q.2.2.1 + 74) % 65537
def yFl (R : Nat → Nat → Nat) (q : (Nat × Nat × Nat × (Nat → Nat))) : Nat := max 1 (R 0 4 + ySd q % 61 - 30)
def yB (R : Nat → Nat → Nat) (q : (Nat × Nat × Nat × (Nat → Nat))) : Nat := bs (buB R q.1 (dp R (wN R q.1) (yFl R q)) q.2.2.2) (R 0 1)
def yL (R : Nat → Nat → Nat) (q : (Nat × Nat × Nat × (Nat → Nat))) : Nat := ld q.1 (yB R q)
def yS1 (R : Nat → Nat → Nat) (q : (Nat × Nat × Nat × (Nat → Nat))) : (Nat × Nat × Nat × (Nat → Nat)) := (yL R q, q.2.1 ||| yB R q, ySd q, fun j => q.2.2.2 j + if (yL R q).testBit j = true then 1 else 0)
def yH (R : Nat → Nat → Nat) (q : (Nat × Nat × Nat × (Nat → Nat))) : Nat := harmN R (wN R (yL R q)) (yFl R q)
def ySp (R : Nat → Nat → Nat) (q : (Nat × Nat × Nat × (Nat → Nat))) : Nat := bs (fun r => decide (0 < sl R (wN R (yL R q)) (yFl R q) r)) (R 0 0)
/-- a state that may be, the wear at most c -/
def qOK (R : Nat → Nat → Nat) (c : Nat) (q : (Nat × Nat × Nat × (Nat → Nat))) : Prop := q.1 < 2 ^ R 0 1 ∧ q.2.1 < 2 ^ R 0 1 ∧ dj q.1 q.2.1 ∧ q.2.2.1 ≤ 65536 ∧ ∀ j, j < R 0 1 → q.2.2.2 j ≤ c
theorem ld_test (L M j : Nat) : (ld L M).testBit j = (L.testBit j && !M.testBit j) := by
  unfold ld
  rw [Nat.testBit_and, Nat.testBit_xor]
  cases L.testBit j <;> cases M.testBit j <;> rfl
theorem ySd_le (q : (Nat × Nat × Nat × (Nat → Nat))) : ySd q ≤ 65536 := by unfold ySd; omega
theorem yFl_le {R : Nat → Nat → Nat} (hR : rvOK R) (q : (Nat × Nat × Nat × (Nat → Nat))) : 1 ≤ yFl R q ∧ yFl R q ≤ 999 := by
  have := hR.1.2.2.2.2.2.2.1
  unfold yFl
  omega
theorem qOK_y {R : Nat → Nat → Nat} (hR : rvOK R) {c : Nat} {q : (Nat × Nat × Nat × (Nat → Nat))} (h : qOK R c q) : qOK R (c + 1) (yS1 R q) := by
  obtain ⟨h1, h2, h3, h4, h5⟩ := h
  refine ⟨Nat.lt_of_le_of_lt (ld_le _ _) h1, Nat.or_lt_two_pow h2 (bs_lt _ _), fun j a b => ?_, ySd_le q, fun j hj => ?_⟩
  · simp only [yS1, yL] at a b
    rw [ld_test] at a
    rw [Nat.testBit_or] at b
    have ha : q.1.testBit j = true ∧ (yB R q).testBit j = false := by
      revert a
      cases q.1.testBit j <;> cases (yB R q).testBit j <;> simp
    rw [ha.2, Bool.or_false] at b
    exact h3 j ha.1 b
  · have := h5 j hj
    simp only [yS1]
    split <;> omega
theorem rw_wear {k : Nat} (hk : k ≤ 7) {L : Nat} (hL : L < 2 ^ 31) {we : Nat → Int32} {V : Nat → Nat} (hw : rw_ k we V) {β : Type} {K : (Nat → Int32) → Option (Int32 × (Nat → Int32) × (Nat → Int32) × (Nat → Int32) × (Nat → Int32) × (Nat → Int32) × Int32 × Int32 × Int32 × Int32 × Int32 × Int32 × Int32 × (Nat → Int32))} :
    ∃ we', f_X0_passYear_L111 K (nI k) (nI L) 2000 0 we = K we' ∧ rw_ k we' (fun j => V j + if L.testBit j = true then 1 else 0) := by
  refine loopK2 (A_1 := Int32) (A_2 := (Nat → Int32)) (F := fun n s_1 s_2 => f_X0_passYear_L111 K (nI k) (nI L) n s_1 s_2) (P := fun i s_1 s_2 => s_1 = nI i ∧ ∀ j, j < k → s_2 j = nI (V j + if j < i ∧ L.testBit j = true then 1 else 0)) (a := 0) (N := k) (fuel := 2000) (i_1 := 0) (i_2 := we) ?_ (Nat.zero_le _) ?_ (by omega) ⟨rfl, fun j hj => by rw [hw j hj]; simp⟩
  · rintro m y1 y2 ⟨z1, z2⟩ e
    (try dsimp only at z1 z2 e)
    subst z1
    refine ⟨y2, ?_, fun j hj => ?_⟩
    · rw [e, f_X0_passYear_L111, if_pos (nI_le (by omega) (by omega))]
    · rw [z2 j hj]; simp [hj]
  · rintro m i y1 y2 - hi ⟨z1, z2⟩
    (try dsimp only at z1 z2 ⊢)
    subst z1
    rw [f_X0_passYear_L111, if_neg (nI_ge (by omega) (by omega)), isIn_nI hL (by omega), bind_some', nI_1]
    by_cases hl : L.testBit i = true
    · rw [if_pos hl, if_neg one_ne]
      simp only [inb_nI (show i < 7 by omega) (by decide), gd_true, nm_eq, nI_clamp (show i < 2 ^ 31 by omega), z2 i hi, nI_1]
      refine ⟨_, _, rfl, ⟨rfl, fun j hj => ?_⟩⟩
      (try dsimp only)
      by_cases e : j = i
      · subst e
        rw [upd_s]
        simp [hl]
      · rw [upd_n _ _ e, z2 j hj]
        have : (j < i + 1) ↔ j < i := by omega
        simp [this]
    · rw [if_neg hl, if_pos rfl]
      refine ⟨_, _, rfl, ⟨rfl, fun j hj => ?_⟩⟩
      (try dsimp only)
      rw [z2 j hj]
      by_cases e : j = i
      · subst e; simp [hl]
      · have : (j < i + 1) ↔ j < i := by omega
        simp [this]
theorem s_passYear {R : Nat → Nat → Nat} (hR : rvOK R) {c : Nat} (hc : c < 2 ^ 16) {q : (Nat × Nat × Nat × (Nat → Nat))} (hq : qOK R c q) {kind wide bank at_ pulls : Nat → Int32} (T : tR R kind wide bank at_ pulls) {bears wear : Nat → Int32} (hb : rw_ (R 0 1) bears (R 6)) (hwr : rw_ (R 0 1) wear q.2.2.2) (w co de sp ha : Nat → Int32) (be al si fl : Int32) :
    ∃ w' co' de' sp' ha' be' al' wear', f_X0_passYear w co de sp ha be al si (nI (R 0 4)) (nI (R 0 0)) (nI (R 0 1)) kind wide bank at_ pulls bears (nI q.1) (nI q.2.1) fl (nI q.2.2.1) wear = some (nI (yH R q), w', co', de', sp', ha', be', al', nI (ySp R q), nI (yS1 R q).1, nI (yS1 R q).2.1, nI (yFl R q), nI (yS1 R q).2.2.1, wear') ∧ rw_ (R 0 1) wear' (yS1 R q).2.2.2 := by
  obtain ⟨h1, h2, h3, h4, h5⟩ := hq
  have hn := hR.1.2.1
  have hk := hR.1.2.2.1
  have h9 := hR.1.2.2.2.2.2.2.1
  have hfl := (yFl_le hR q)
  have hsd := ySd_le q
  have hL31 := pow_k hk h1
  have hyL : yL R q < 2 ^ 31 := Nat.lt_of_le_of_lt (ld_le _ _) hL31
  have hV : ∀ j, j < R 0 1 → q.2.2.2 j < 2 ^ 20 := fun j hj => by have := h5 j hj; omega
  have hD : ∀ r, r < R 0 0 → dp R (wN R q.1) (yFl R q) r < 2 ^ 20 := fun r _ => Nat.lt_of_le_of_lt (dp_le R (wN R q.1) (yFl R q) r) (by omega)
  have es : (75 * nI q.2.2.1 + 74) - (75 * nI q.2.2.1 + 74) / 65537 * 65537 = nI (ySd q) := by
    rw [show (75 : Int32) = nI 75 from rfl, show (74 : Int32) = nI 74 from rfl, show (65537 : Int32) = nI 65537 from rfl, pk_mul, nI_add]
    exact pk_rem (by omega) (by decide) (by decide)
  have ef : (if (1 : Int32) < nI (R 0 4) + (nI (ySd q) - nI (ySd q) / 61 * 61) - 30 then nI (R 0 4) + (nI (ySd q) - nI (ySd q) / 61 * 61) - 30 else 1) = nI (yFl R q) := by
    rw [show nI (ySd q) - nI (ySd q) / 61 * 61 = nI (ySd q % 61) from pk_rem (by omega) (by decide) (by decide), nI_add, show (30 : Int32) = nI 30 from rfl]
    exact sub_max1 (by omega) (by decide)
  obtain ⟨c1, c2, c3, c4, c5, c6, c7, c8, e, q1, hco, hde, hrest⟩ := s_run hR hL31 (f := yFl R q) (by omega) T.kind T.wide T.bank T.at_ T.pulls w co de sp ha be al si
  obtain ⟨d1, d2, d3, d4, d5, d6, d7, d8, e', q1', hco', hde', hsp', hha', hbe', hal', hsi'⟩ := s_run hR hyL (f := yFl R q) (by omega) T.kind T.wide T.bank T.at_ T.pulls c1 c2 c3 c4 c5 c6 c7 c8
  unfold f_X0_passYear
  rw [nm_eq, es, nm_eq, ef, e, bind_some']
  (try dsimp only)
  rw [s_bursting hR hL31 hD hV hde T.at_ hb hwr, bind_some', nm_eq, nm_eq, andn_nI, nI_or]
  rw [show f_X8_run (nI (ld q.1 (bs (buB R q.1 (dp R (wN R q.1) (yFl R q)) q.2.2.2) (R 0 1)))) (nI (yFl R q)) c1 c2 c3 c4 c5 c6 c7 c8 (nI (R 0 0)) (nI (R 0 1)) kind wide bank at_ pulls = _ from e', bind_some']
  (try dsimp only)
  obtain ⟨we', ew, hw'⟩ := rw_wear hk hyL hwr (β := Unit) (K := fun we => some (d7, d1, d2, d3, d4, d5, d6, d7, d8, nI (yL R q), nI (q.2.1 ||| yB R q), nI (yFl R q), nI (ySd q), we))
  refine ⟨d1, d2, d3, d4, d5, d6, d7, we', ?_, hw'⟩
  refine Eq.trans ew ?_
  rw [hal', hsi']; rfl
/-- the reference's year -/
theorem vR_in1 {k : Nat} (hk : k ≤ 7) {v : Nat → Int32} {L U f sd : Nat} {V : Nat → Nat} (h : vR k v L U f sd V) (hL : L < 2 ^ k) : f_X12_ropesIn 1 (nI k) v = some (nI L) := by
  have := vR_laced hk h hL
  unfold f_X12_lacedNow at this
  cases e : f_X12_ropesIn 1 (nI k) v with
  | none => rw [e] at this; cases this
  | some x => rw [e] at this; exact this
theorem m_L84 {k : Nat} (hk : k ≤ 7) {L U f sd B : Nat} (hB : B < 2 ^ 31) {V : Nat → Nat} {a : Nat → Int32} (hv : vR k a L U f sd V) {K : (Nat → Int32) → Option (Int32 × (Nat → Int32) × (Nat → Int32) × (Nat → Int32) × (Nat → Int32) × Int32 × (Nat → Int32))} :
    ∃ a', f_X12_goesBy_L84 K (nI B) (nI k) 2000 0 a = K a' ∧ vR k a' (ld L B) (U ||| B) f sd V := by
  refine loopK2 (A_1 := Int32) (A_2 := (Nat → Int32)) (F := fun n s_1 s_2 => f_X12_goesBy_L84 K (nI B) (nI k) n s_1 s_2) (P := fun i s_1 s_2 => s_1 = nI i ∧ (∀ j, j < k → s_2 j = nI (if j < i ∧ B.testBit j = true then 2 else if L.testBit j = true then 1 else if U.testBit j = true then 2 else 0)) ∧ ∀ x0, 7 ≤ x0 → s_2 x0 = a x0) (a := 0) (N := k) (fuel := 2000) (i_1 := 0) (i_2 := a) ?_ (Nat.zero_le _) ?_ (by omega) ⟨rfl, fun j hj => by rw [hv.1 j hj]; simp, fun _ _ => rfl⟩
  · rintro m y1 y2 ⟨z1, z2, z3⟩ e
    (try dsimp only at z1 z2 z3 e)
    subst z1
    refine ⟨y2, ?_, fun j hj => ?_, fun j hj => ?_, ?_, ?_⟩
    · rw [e, f_X12_goesBy_L84, if_pos (nI_le (by omega) (by omega))]
    · rw [z2 j hj, ld_test, Nat.testBit_or]
      refine congrArg nI ?_
      by_cases hb : B.testBit j = true
      · simp [hj, hb]
      · simp [hb]
    · rw [z3 _ (by omega)]; exact hv.2.1 j hj
    · rw [z3 _ (by omega)]; exact hv.2.2.1
    · rw [z3 _ (by omega)]; exact hv.2.2.2
  · rintro m i y1 y2 - hi ⟨z1, z2, z3⟩
    (try dsimp only at z1 z2 z3 ⊢)
    subst z1
    rw [f_X12_goesBy_L84, if_neg (nI_ge (by omega) (by omega)), bit_nI hB (by omega), bind_some', nI_1, show (0 : Int32) + nI i = nI i from (nI_add 0 i).trans (by rw [Nat.zero_add])]
    by_cases hl : B.testBit i = true
    · rw [if_pos hl, if_neg one_ne, inb_nI (show i < 16 by omega) (by decide), gd_true, nm_eq, nI_clamp (show i < 2 ^ 31 by omega)]
      refine ⟨_, _, rfl, ⟨rfl, fun j hj => ?_, fun x0 h0 => ?_⟩⟩
      · (try dsimp only)
        by_cases e : j = i
        · subst e
          rw [upd_s]
          simp [hl]; rfl
        · rw [upd_n _ _ e, z2 j hj]
          have : (j < i + 1) ↔ j < i := by omega
          simp only [this]
      · (try dsimp only)
        rw [upd_n _ _ (by omega)]; exact z3 x0 h0
    · rw [if_neg hl, if_pos rfl]
      refine ⟨_, _, rfl, ⟨rfl, fun j hj => ?_, z3⟩⟩
      (try dsimp only)
      rw [z2 j hj]
      by_cases e : j = i
      · subst e; simp [hl]
      · have : (j < i + 1) ↔ j < i := by omega
        simp only [this]
theorem m_L135 {k : Nat} (hk : k ≤ 7) {L U f sd : Nat} {V : Nat → Nat} {a : Nat → Int32} (hv : vR k a L U f sd V) {K : (Nat → Int32) → Option (Int32 × (Nat → Int32) × (Nat → Int32) × (Nat → Int32) × (Nat → Int32) × Int32 × (Nat → Int32))} :
    ∃ a', f_X12_goesBy_L135 K (nI k) 2000 0 a = K a' ∧ vR k a' L U f sd (fun j => V j + if L.testBit j = true then 1 else 0) := by
  refine loopK2 (A_1 := Int32) (A_2 := (Nat → Int32)) (F := fun n s_1 s_2 => f_X12_goesBy_L135 K (nI k) n s_1 s_2) (P := fun i s_1 s_2 => s_1 = nI i ∧ (∀ j, j < k → s_2 (7 + j) = nI (V j + if j < i ∧ L.testBit j = true then 1 else 0)) ∧ (∀ x0, x0 < 7 → s_2 x0 = a x0) ∧ ∀ x0, 14 ≤ x0 → s_2 x0 = a x0) (a := 0) (N := k) (fuel := 2000) (i_1 := 0) (i_2 := a) ?_ (Nat.zero_le _) ?_ (by omega) ⟨rfl, fun j hj => by rw [hv.2.1 j hj]; simp, fun _ _ => rfl, fun _ _ => rfl⟩
  · rintro m y1 y2 ⟨z1, z2, z3, z4⟩ e
    (try dsimp only at z1 z2 z3 z4 e)
    subst z1
    refine ⟨y2, ?_, fun j hj => ?_, fun j hj => ?_, ?_, ?_⟩
    · rw [e, f_X12_goesBy_L135, if_pos (nI_le (by omega) (by omega))]
    · rw [z3 j (by omega)]; exact hv.1 j hj
    · rw [z2 j hj]; simp [hj]
    · rw [z4 _ (by omega)]; exact hv.2.2.1
    · rw [z4 _ (by omega)]; exact hv.2.2.2
  · rintro m i y1 y2 - hi ⟨z1, z2, z3, z4⟩
    (try dsimp only at z1 z2 z3 z4 ⊢)
    subst z1
    rw [f_X12_goesBy_L135, if_neg (nI_ge (by omega) (by omega)), show (0 : Int32) + nI i = nI i from (nI_add 0 i).trans (by rw [Nat.zero_add]), show (7 : Int32) + nI i = nI (7 + i) from nI_add 7 i]
    simp only [inb_nI (show i < 16 by omega) (by decide), inb_nI (show 7 + i < 16 by omega) (by decide), gd_true, nm_eq, nI_clamp (show i < 2 ^ 31 by omega), nI_clamp (show 7 + i < 2 ^ 31 by omega), nI_1, Int32.add_zero, z2 i hi, z3 i (show i < 7 by omega), hv.1 i hi]
    by_cases hl : L.testBit i = true
    · rw [if_pos (show nI (if L.testBit i = true then 1 else if U.testBit i = true then 2 else 0) = 1 by rw [if_pos hl]; rfl)]
      refine ⟨_, _, rfl, ⟨rfl, fun j hj => ?_, fun x0 h0 => ?_, fun x0 h0 => ?_⟩⟩
      · (try dsimp only)
        by_cases e : j = i
        · subst e
          rw [upd_s]
          simp [hl]
        · rw [upd_n _ _ (by omega), z2 j hj]
          have : (j < i + 1) ↔ j < i := by omega
          simp only [this]
      · (try dsimp only)
        rw [upd_n _ _ (by omega)]; exact z3 x0 h0
      · (try dsimp only)
        rw [upd_n _ _ (by omega)]; exact z4 x0 h0
    · rw [if_neg (show ¬ nI (if L.testBit i = true then 1 else if U.testBit i = true then 2 else 0) = 1 by rw [if_neg hl]; split <;> decide)]
      refine ⟨_, _, rfl, ⟨rfl, fun j hj => ?_, fun x0 h0 => ?_, fun x0 h0 => ?_⟩⟩
      · (try dsimp only)
        by_cases e : j = i
        · subst e
          rw [upd_s]
          simp [hl]
        · rw [upd_n _ _ (by omega), z2 j hj]
          have : (j < i + 1) ↔ j < i := by omega
          simp only [this]
      · (try dsimp only)
        rw [upd_n _ _ (by omega)]; exact z3 x0 h0
      · (try dsimp only)
        rw [upd_n _ _ (by omega)]; exact z4 x0 h0
theorem m_goesBy {R : Nat → Nat → Nat} (hR : rvOK R) {c : Nat} (hc : c < 2 ^ 16) {q : (Nat × Nat × Nat × (Nat → Nat))} (hq : qOK R c q) {f : Nat} {kind wide bank at_ pulls : Nat → Int32} (T : tR R kind wide bank at_ pulls) {bears a : Nat → Int32} (hb : rw_ (R 0 1) bears (R 6)) (hv : vR (R 0 1) a q.1 q.2.1 f q.2.2.1 q.2.2.2) (wi wa de sp : Nat → Int32) (be : Int32) :
    ∃ wi' wa' de' sp' be' a', f_X12_goesBy (nI (R 0 4)) (nI (R 0 0)) (nI (R 0 1)) kind wide bank at_ pulls bears wi wa de sp be a = some (nI (yH R q), wi', wa', de', sp', be', a') ∧ vR (R 0 1) a' (yS1 R q).1 (yS1 R q).2.1 (yFl R q) (yS1 R q).2.2.1 (yS1 R q).2.2.2 ∧ f_X12_spilling (nI (R 0 0)) sp' = some (nI (ySp R q)) := by
  obtain ⟨g1, g2, g3, g4, g5⟩ := hq
  have hn := hR.1.2.1
  have hk := hR.1.2.2.1
  have h9 := hR.1.2.2.2.2.2.2.1
  have hfl := (yFl_le hR q)
  have hsd := ySd_le q
  have hL31 := pow_k hk g1
  have hyL : yL R q < 2 ^ 31 := Nat.lt_of_le_of_lt (ld_le _ _) hL31
  have hV : ∀ j, j < R 0 1 → q.2.2.2 j < 2 ^ 20 := fun j hj => by have := g5 j hj; omega
  have hD : ∀ r, r < R 0 0 → dp R (wN R q.1) (yFl R q) r < 2 ^ 20 := fun r _ => Nat.lt_of_le_of_lt (dp_le R (wN R q.1) (yFl R q) r) (by omega)
  have hS : ∀ r, r < R 0 0 → sl R (wN R (yL R q)) (yFl R q) r < 2 ^ 20 := fun r _ => Nat.lt_of_le_of_lt (sl_le R (wN R (yL R q)) (yFl R q) r) (by omega)
  have hH : sm (fun r => h1 (R 1 r) (sl R (wN R (yL R q)) (yFl R q) r)) (R 0 0) = yH R q := by rw [yH, harmN, hsum_sm]; rfl
  have es : ((75 * (a (15 : Int32).toNatClampNeg).toInt64 + 74) - (75 * (a (15 : Int32).toNatClampNeg).toInt64 + 74) / 65537 * 65537).toInt32 = nI (ySd q) := by
    rw [show a (15 : Int32).toNatClampNeg = nI q.2.2.1 from hv.2.2.2, nI_l (by omega), show (75 : Int64) = lN 75 from rfl, show (74 : Int64) = lN 74 from rfl, show (65537 : Int64) = lN 65537 from rfl, lN_mul, lN_add, pk_lRem (by omega) (by decide) (by decide), lN_i]; rfl
  have ez : (nI (R 0 4) + (nI (ySd q) - nI (ySd q) / 61 * 61) - 30 : Int32) = nI (R 0 4 + ySd q % 61) - nI 30 := by
    rw [show nI (ySd q) - nI (ySd q) / 61 * 61 = nI (ySd q % 61) from pk_rem (by omega) (by decide) (by decide), nI_add]; rfl
  have hm := le_max1 (a := R 0 4 + ySd q % 61) (b := 30) (by omega) (by decide)
  have eF : max 1 (R 0 4 + ySd q % 61 - 30) = yFl R q := rfl
  rw [eF] at hm
  have hB : ∃ wi' wa' de' sp' be' a', f_X12_goesBy_B54 14 (nI (yFl R q)) (nI (R 0 0)) (nI (R 0 1)) kind wide bank at_ pulls bears wi wa de sp be (upd a 15 (nI (ySd q))) = some (nI (yH R q), wi', wa', de', sp', be', a') ∧ vR (R 0 1) a' (yS1 R q).1 (yS1 R q).2.1 (yFl R q) (yS1 R q).2.2.1 (yS1 R q).2.2.2 ∧ f_X12_spilling (nI (R 0 0)) sp' = some (nI (ySp R q)) := by
    have hv2 : vR (R 0 1) (upd (upd a 15 (nI (ySd q))) 14 (nI (yFl R q))) q.1 q.2.1 (yFl R q) (ySd q) q.2.2.2 := by
      refine ⟨fun j hj => ?_, fun j hj => ?_, upd_s _ _ _, ?_⟩
      · rw [upd_n _ _ (by omega), upd_n _ _ (by omega)]; exact hv.1 j hj
      · rw [upd_n _ _ (by omega), upd_n _ _ (by omega)]; exact hv.2.1 j hj
      · rw [upd_n _ _ (by omega), upd_s]
    obtain ⟨c1, c2, c3, c4, c5, e, hwi, hwa, hde, hsp, hbe⟩ := m_runs hR hL31 (f := yFl R q) (by omega) T.kind T.wide T.bank T.at_ T.pulls wi wa de sp be
    obtain ⟨d1, d2, d3, d4, d5, e', hwi', hwa', hde', hsp', hbe'⟩ := m_runs hR hyL (f := yFl R q) (by omega) T.kind T.wide T.bank T.at_ T.pulls c1 c2 c3 c4 c5
    unfold f_X12_goesBy_B54
    rw [show inb 14 16 = true by decide, gd_true, nm_eq, show (14 : Int32).toNatClampNeg = 14 from rfl, vR_in1 hk hv2 g1, bind_some', gd_true, upd_s, e, bind_some']
    rw [bind_some']
    (try dsimp only)
    rw [m_bursting hR hL31 hD hV hde T.at_ hb hv2.2.1, bind_some']
    obtain ⟨a1, ea1, ha1⟩ := m_L84 hk (B := yB R q) (bs6 hk) hv2 (K := fun a_84 => (f_X12_ropesIn 1 (nI (R 0 1)) a_84).bind fun o20 => gd (inb 14 16) <| (f_X12_runs o20 (a_84 14) (nI (R 0 0)) (nI (R 0 1)) kind wide bank at_ pulls c1 c2 c3 c4 c5).bind fun o22 => f_X12_goesBy_L135 (fun a_135 => (f_X12_allHarm (nI (R 0 0)) kind o22.2.2.2.1).bind fun o33 => some (o33, o22.1, o22.2.1, o22.2.2.1, o22.2.2.2.1, o22.2.2.2.2, a_135)) (nI (R 0 1)) 2000 0 a_84)
    obtain ⟨a2, ea2, ha2⟩ := m_L135 hk ha1 (K := fun a_135 => (f_X12_allHarm (nI (R 0 0)) kind d4).bind fun o33 => some (o33, d1, d2, d3, d4, d5, a_135))
    refine ⟨d1, d2, d3, d4, d5, a2, ?_, ha2, m_spilling hn hsp' (fun r hr => Nat.lt_of_lt_of_le (hS r hr) (by decide))⟩
    refine Eq.trans ea1 ?_
    rw [vR_in1 hk ha1 (Nat.lt_of_le_of_lt (ld_le _ _) g1), bind_some', show inb 14 16 = true by decide, gd_true, ha1.2.2.1]
    rw [show f_X12_runs (nI (ld q.1 (yB R q))) (nI (yFl R q)) (nI (R 0 0)) (nI (R 0 1)) kind wide bank at_ pulls c1 c2 c3 c4 c5 = _ from e', bind_some']
    refine Eq.trans ea2 ?_
    rw [m_allHarm hn T.kind hsp' (fun r hr => (hR.2.1 r hr).1) hS, bind_some', hH]
  unfold f_X12_goesBy
  rw [show inb 15 16 = true by decide, gd_true, nm_eq, es, gd_true, nm_eq, gd_true, nm_eq, show (15 : Int32).toNatClampNeg = 15 from rfl, upd_s, ez]
  by_cases hz : nI (R 0 4 + ySd q % 61) - nI 30 ≤ 1
  · rw [if_pos hz]
    rw [hm.1 hz] at hB
    exact hB
  · rw [if_neg hz, hm.2 hz]
    exact hB
