/-! feed -/
/-- byte j of a number, the highest first -/
def byV (x : Int32) (j : Nat) : Int32 := (x >>> (nI (24 - 8 * j) &&& 31)).toInt8.toInt32
theorem byV_r (x : Int32) (j : Nat) : -128 ≤ (byV x j).toInt ∧ (byV x j).toInt < 128 := lg_i2b_range _
theorem b_eq {u a : Int32} (h : u.toInt % 256 = a.toInt % 256) : u.toInt8.toInt32 = a.toInt8.toInt32 := by
  rw [i32_eq, lg_i2b_toInt, lg_i2b_toInt]
  unfold Int.bmod
  rw [show ((2 ^ 8 : Nat) : Int) = 256 from rfl, h]
theorem b_k (x s : Int32) (k : Nat) (hk : k = 8 ∨ k = 16 ∨ k = 24) (h1 : ((s.toUInt32 &&& Int32.toUInt32 31).toBitVec % 32).toNat = k) (h2 : ((s &&& 31).toBitVec.smod 32).toNat = k) : ((x.toUInt32 >>> (s.toUInt32 &&& Int32.toUInt32 31)).toInt32).toInt8.toInt32 = (x >>> (s &&& 31)).toInt8.toInt32 := by
  apply b_eq
  have e1 := pk_ushr x s k h1
  have e2 := pk_shr x (s &&& 31) k h2
  have hd : ∀ y : Int32, y.toInt = y.toBitVec.toInt := fun _ => rfl
  have hlt := x.toBitVec.isLt
  rw [e2, Int.shiftRight_eq_div_pow, hd, hd x, BitVec.toInt_eq_toNat_cond, BitVec.toInt_eq_toNat_cond, e1]
  rcases hk with rfl | rfl | rfl
  · rw [if_pos (by omega)]
    split <;> omega
  · rw [if_pos (by omega)]
    split <;> omega
  · rw [if_pos (by omega)]
    split <;> omega
theorem b_0 (x : Int32) : ((x.toUInt32 >>> ((0 : Int32).toUInt32 &&& Int32.toUInt32 31)).toInt32).toInt8.toInt32 = (x >>> (nI 0 &&& 31)).toInt8.toInt32 := by
  apply b_eq
  have e1 := pk_ushr x 0 0 (by decide)
  have e2 := pk_shr x (nI 0 &&& 31) 0 (by decide)
  have hd : ∀ y : Int32, y.toInt = y.toBitVec.toInt := fun _ => rfl
  rw [e2, Int.shiftRight_eq_div_pow, hd, hd x, BitVec.toInt_eq_toNat_cond, BitVec.toInt_eq_toNat_cond, e1]
  simp
theorem s_append {t : Nat} (ht : t + 4 ≤ 900) (x : Int32) (tp : (Nat → Int32)) : ∃ tp', f_X5_append x tp (nI t) = some (tp', nI (t + 4)) ∧ (∀ j, j < 4 → tp' (t + j) = byV x j) ∧ ∀ i, i < t → tp' i = tp i := by
  have step : ∀ (K : (Nat → Int32) → Int32 → Option ((Nat → Int32) × Int32)) (m t : Nat) (s : Int32) (tp : (Nat → Int32)) (b : Int32), t < 900 → ¬ s < 0 → ((x.toUInt32 >>> (s.toUInt32 &&& Int32.toUInt32 31)).toInt32).toInt8.toInt32 = b → f_X5_append_L3 K x (m + 1) s tp (nI t) = f_X5_append_L3 K x m (s + (-8)) (upd tp t b) (nI (t + 1)) := by
    intro K m t s tp b h1 h2 h3
    rw [f_X5_append_L3, if_neg h2, if_neg (show ¬ (900 : Int32) ≤ nI t from nI_ge (b := 900) h1 (by decide)), nm_eq, inb_nI h1 (by decide), gd_true, nm_eq, nm_eq, nI_clamp (by omega), nI_1, pk_vb, h3]
  refine ⟨upd (upd (upd (upd tp t (byV x 0)) (t + 1) (byV x 1)) (t + 1 + 1) (byV x 2)) (t + 1 + 1 + 1) (byV x 3), ?_, fun j hj => ?_, fun i hi => ?_⟩
  · unfold f_X5_append
    rw [step _ 1999 t 24 tp (byV x 0) (by omega) (by decide) (b_k x 24 24 (by decide) (by decide) (by decide)), show (24 : Int32) + (-8) = 16 from rfl, step _ 1998 (t + 1) 16 _ (byV x 1) (by omega) (by decide) (b_k x 16 16 (by decide) (by decide) (by decide)), show (16 : Int32) + (-8) = 8 from rfl, step _ 1997 (t + 1 + 1) 8 _ (byV x 2) (by omega) (by decide) (b_k x 8 8 (by decide) (by decide) (by decide)), show (8 : Int32) + (-8) = 0 from rfl, step _ 1996 (t + 1 + 1 + 1) 0 _ (byV x 3) (by omega) (by decide) (b_0 x), show (0 : Int32) + (-8) = -8 from rfl, f_X5_append_L3, if_pos (show (-8 : Int32) < 0 by decide)]
  · rcases (show j = 0 ∨ j = 1 ∨ j = 2 ∨ j = 3 by omega) with rfl | rfl | rfl | rfl
    · rw [upd_n _ _ (by omega), upd_n _ _ (by omega), upd_n _ _ (by omega), Nat.add_zero, upd_s]
    · rw [upd_n _ _ (by omega), upd_n _ _ (by omega), upd_s]
    · rw [upd_n _ _ (by omega), upd_s]
    · rw [upd_s]
  · rw [upd_n _ _ (by omega), upd_n _ _ (by omega), upd_n _ _ (by omega), upd_n _ _ (by omega)]
def selF (a b c d e : Int32) (k : Nat) : Int32 := if k < 4 then a else if k < 8 then b else if k < 12 then c else if k < 16 then d else e
theorem m_B76 {K : Int32 → (Nat → Int32) → Int32 → Option (Int32 × Int32 × (Nat → Int32) × Int32)} {k t : Nat} (hk : k < 20) (ht : t < 900) (y : Int32) (tp : (Nat → Int32)) : f_X12_feed_B76 K (nI k) y tp (nI t) = K (nI (k + 1)) (upd tp t (byV y (k % 4))) (nI (t + 1)) := by
  unfold f_X12_feed_B76
  rw [show nI k - nI k / 4 * 4 = nI (k % 4) from pk_rem (by omega) (by decide) (by decide), show (8 : Int32) = nI 8 from rfl, pk_mul, show (24 : Int32) = nI 24 from rfl, nI_sub (by omega), nm_eq, inb_nI ht (by decide), gd_true, nm_eq, nm_eq, nI_clamp (by omega), nI_1, nI_1, pk_vb]
  rfl
theorem m_feedL {t : Nat} (ht : t + 20 ≤ 900) (a b c d e : Int32) (tm : (Nat → Int32)) {K : (Nat → Int32) → Int32 → Option (Int32 × Int32 × (Nat → Int32) × Int32)} : ∃ tm', f_X12_feed_L23 K a b c d e 2000 0 tm (nI t) = K tm' (nI (t + 20)) ∧ (∀ j, j < 20 → tm' (t + j) = byV (selF a b c d e j) (j % 4)) ∧ ∀ i, i < t → tm' i = tm i := by
  refine loopK3 (A_1 := Int32) (A_2 := (Nat → Int32)) (A_3 := Int32) (F := fun n s_1 s_2 s_3 => f_X12_feed_L23 K a b c d e n s_1 s_2 s_3) (P := fun k s_1 s_2 s_3 => s_1 = nI k ∧ s_3 = nI (t + k) ∧ (∀ j, j < k → s_2 (t + j) = byV (selF a b c d e j) (j % 4)) ∧ ∀ i, i < t → s_2 i = tm i) (a := 0) (N := 20) (fuel := 2000) (i_1 := 0) (i_2 := tm) (i_3 := nI t) ?_ (Nat.zero_le _) ?_ (by omega) ⟨rfl, rfl, fun j hj => absurd hj (by omega), fun _ _ => rfl⟩
  · rintro m y1 y2 y3 ⟨rfl, rfl, z3, z4⟩ e
    exact ⟨y2, by rw [e, f_X12_feed_L23, if_pos (show (20 : Int32) ≤ nI 20 by decide)], z3, z4⟩
  · rintro m k y1 y2 y3 - hk ⟨rfl, rfl, z3, z4⟩
    have hsel : f_X12_feed_L23 K a b c d e (m + 1) (nI k) y2 (nI (t + k)) = f_X12_feed_B76 (f_X12_feed_L23 K a b c d e m) (nI k) (selF a b c d e k) y2 (nI (t + k)) := by
      rw [f_X12_feed_L23, if_neg (show ¬ (20 : Int32) ≤ nI k from nI_ge (b := 20) (by omega) (by decide))]
      unfold selF
      by_cases h4 : k < 4
      · rw [if_neg (show ¬ (4 : Int32) ≤ nI k from nI_ge (b := 4) (by omega) (by decide)), if_pos h4]
      · rw [if_pos (show (4 : Int32) ≤ nI k from nI_le (a := 4) (by omega) (by omega)), if_neg h4]
        by_cases h8 : k < 8
        · rw [if_neg (show ¬ (8 : Int32) ≤ nI k from nI_ge (b := 8) (by omega) (by decide)), if_pos h8]
        · rw [if_pos (show (8 : Int32) ≤ nI k from nI_le (a := 8) (by omega) (by omega)), if_neg h8]
          by_cases h12 : k < 12
          · rw [if_neg (show ¬ (12 : Int32) ≤ nI k from nI_ge (b := 12) (by omega) (by decide)), if_pos h12]
          · rw [if_pos (show (12 : Int32) ≤ nI k from nI_le (a := 12) (by omega) (by omega)), if_neg h12]
            by_cases h16 : k < 16
            · rw [if_neg (show ¬ (16 : Int32) ≤ nI k from nI_ge (b := 16) (by omega) (by decide)), if_pos h16]
            · rw [if_pos (show (16 : Int32) ≤ nI k from nI_le (a := 16) (by omega) (by omega)), if_neg h16]
    rw [hsel, m_B76 hk (by omega)]
    refine ⟨_, _, _, rfl, rfl, rfl, fun j hj => ?_, fun i hi => ?_⟩
    · by_cases e : j = k
      · subst e; rw [upd_s]
      · rw [upd_n _ _ (by omega)]; exact z3 j (by omega)
    · rw [upd_n _ _ (by omega)]; exact z4 i hi
/-- both tapes hold the same bytes -/
def tpE (filled taped : Int32) (tc tm : (Nat → Int32)) : Prop := ∃ t : Nat, t ≤ 900 ∧ filled = nI t ∧ taped = nI t ∧ ∀ i, i < t → tc i = tm i ∧ -128 ≤ (tm i).toInt ∧ (tm i).toInt < 128
theorem j_feed (a b c d e th : Int32) {filled taped : Int32} {tc tm : (Nat → Int32)} (h : tpE filled taped tc tm) : ∃ o q, f_X10_feed a b c d e tc filled = some o ∧ f_X12_feed a b c d e th tm taped = some q ∧ q.1 = o.1 ∧ q.2.1 = 0 ∧ tpE o.2.2 q.2.2.2 o.2.1 q.2.2.1 := by
  obtain ⟨t, ht9, rfl, rfl, hb⟩ := h
  unfold f_X10_feed f_X12_feed
  rw [show nI t + 20 = nI (t + 20) from nI_add t 20]
  by_cases h20 : t + 20 ≤ 900
  · have hle : nI (t + 20) ≤ 900 := nI_le (b := 900) h20 (by decide)
    rw [if_pos hle, if_pos hle]
    obtain ⟨t1, e1, p1, r1⟩ := s_append (t := t) (by omega) a tc
    obtain ⟨t2, e2, p2, r2⟩ := s_append (t := t + 4) (by omega) b t1
    obtain ⟨t3, e3, p3, r3⟩ := s_append (t := t + 4 + 4) (by omega) c t2
    obtain ⟨t4, e4, p4, r4⟩ := s_append (t := t + 4 + 4 + 4) (by omega) d t3
    obtain ⟨t5, e5, p5, r5⟩ := s_append (t := t + 4 + 4 + 4 + 4) (by omega) e t4
    obtain ⟨tm', em, pm, rm⟩ := m_feedL (t := t) h20 a b c d e tm (K := fun t5 t6 => some (t6, 0, t5, t6))
    rw [e1, bind_some']
    (try dsimp only)
    rw [e2, bind_some']
    (try dsimp only)
    rw [e3, bind_some']
    (try dsimp only)
    rw [e4, bind_some']
    (try dsimp only)
    rw [e5, bind_some', show f_X12_feed_L23 (fun t5 t6 => some (t6, 0, t5, t6)) a b c d e 2000 0 tm (nI t) = _ from em]
    refine ⟨_, _, rfl, rfl, rfl, rfl, t + 20, h20, rfl, rfl, fun i hi => ?_⟩
    (try dsimp only)
    by_cases h0 : i < t
    · rw [r5 i (by omega), r4 i (by omega), r3 i (by omega), r2 i (by omega), r1 i h0, rm i h0]
      exact hb i h0
    · obtain ⟨j, rfl⟩ : ∃ j, i = t + j := ⟨i - t, by omega⟩
      have hj : j < 20 := by omega
      rw [pm j hj]
      refine ⟨?_, byV_r _ _⟩
      unfold selF
      by_cases h4 : j < 4
      · rw [if_pos h4, r5 _ (by omega), r4 _ (by omega), r3 _ (by omega), r2 _ (by omega), p1 j h4, show j % 4 = j by omega]
      · rw [if_neg h4]
        by_cases h8 : j < 8
        · rw [if_pos h8, r5 _ (by omega), r4 _ (by omega), r3 _ (by omega), show t + j = t + 4 + (j - 4) by omega, p2 _ (by omega), show j % 4 = j - 4 by omega]
        · rw [if_neg h8]
          by_cases h12 : j < 12
          · rw [if_pos h12, r5 _ (by omega), r4 _ (by omega), show t + j = t + 4 + 4 + (j - 8) by omega, p3 _ (by omega), show j % 4 = j - 8 by omega]
          · rw [if_neg h12]
            by_cases h16 : j < 16
            · rw [if_pos h16, r5 _ (by omega), show t + j = t + 4 + 4 + 4 + (j - 12) by omega, p4 _ (by omega), show j % 4 = j - 12 by omega]
            · rw [if_neg h16, show t + j = t + 4 + 4 + 4 + 4 + (j - 16) by omega, p5 _ (by omega), show j % 4 = j - 16 by omega]
  · have hnle : ¬ nI (t + 20) ≤ 900 := nI_ge (a := 900) (by omega) (by omega)
    rw [if_neg hnle, if_neg hnle]
    exact ⟨_, _, rfl, rfl, rfl, rfl, t, ht9, rfl, rfl, hb⟩
