/-! states kept: the class's ring and marks, the reference's rows -/
def csR (k : Nat) (l b f s : Int32) (w : (Nat → Int32)) (q : (Nat × Nat × Nat × Nat × (Nat → Nat))) : Prop := l = nI q.1 ∧ b = nI q.2.1 ∧ f = nI q.2.2.1 ∧ s = nI q.2.2.2.1 ∧ rw_ k w q.2.2.2.2
def vS (k : Nat) (v : (Nat → Int32)) (q : (Nat × Nat × Nat × Nat × (Nat → Nat))) : Prop := vR k v q.1 q.2.1 q.2.2.1 q.2.2.2.1 q.2.2.2.2
def stOK (R : Nat → Nat → Nat) (c : Nat) (q : (Nat × Nat × Nat × Nat × (Nat → Nat))) : Prop := qOK R c (q.1, q.2.1, q.2.2.2.1, q.2.2.2.2) ∧ q.2.2.1 ≤ 999
theorem stOK_up {R : Nat → Nat → Nat} {c d : Nat} (hcd : c ≤ d) {q : (Nat × Nat × Nat × Nat × (Nat → Nat))} (h : stOK R c q) : stOK R d q :=
  ⟨⟨h.1.1, h.1.2.1, h.1.2.2.1, h.1.2.2.2.1, fun j hj => Nat.le_trans (h.1.2.2.2.2 j hj) hcd⟩, h.2⟩
/-- the state now -/
def nowE (R : Nat → Nat → Nat) (cap : Nat) (l b f s : Int32) (w v : (Nat → Int32)) : Prop := ∃ q : (Nat × Nat × Nat × Nat × (Nat → Nat)), csR (R 0 1) l b f s w q ∧ vS (R 0 1) v q ∧ stOK R cap q
/-- what can be undone -/
def memE (R : Nat → Nat → Nat) (cap : Nat) (old cnt : Int32) (kl kb kf ks : (Nat → Int32)) (kw : (Nat → Nat → Int32)) (past : (Nat → Int32)) (acts : Int32) : Prop :=
  ∃ (c o : Nat) (S : Nat → (Nat × Nat × Nat × Nat × (Nat → Nat))), old = nI o ∧ cnt = nI c ∧ acts = nI c ∧ c ≤ 16 ∧ o < 16 ∧ ∀ i, i < c → csR (R 0 1) (kl ((o + i) % 16)) (kb ((o + i) % 16)) (kf ((o + i) % 16)) (ks ((o + i) % 16)) (kw ((o + i) % 16)) (S i) ∧ vS (R 0 1) (fun x => past (16 * i + x)) (S i) ∧ stOK R cap (S i)
/-- the marks -/
def mrkE (R : Nat → Nat → Nat) (cap : Nat) (marked : Int32) (ml mb mf ms : (Nat → Int32)) (mw : (Nat → Nat → Int32)) (kept : (Nat → Int32)) (marks : Int32) : Prop :=
  ∃ (c : Nat) (S : Nat → (Nat × Nat × Nat × Nat × (Nat → Nat))), marked = nI c ∧ marks = nI c ∧ c ≤ 3 ∧ ∀ i, i < c → csR (R 0 1) (ml i) (mb i) (mf i) (ms i) (mw i) (S i) ∧ vS (R 0 1) (fun x => kept (16 * i + x)) (S i) ∧ stOK R cap (S i)
theorem nowE_up {R : Nat → Nat → Nat} {c d : Nat} (hcd : c ≤ d) {l b f s : Int32} {w v : (Nat → Int32)} (h : nowE R c l b f s w v) : nowE R d l b f s w v := by
  obtain ⟨q, h1, h2, h3⟩ := h
  exact ⟨q, h1, h2, stOK_up hcd h3⟩
theorem memE_up {R : Nat → Nat → Nat} {c d : Nat} (hcd : c ≤ d) {old cnt : Int32} {kl kb kf ks : (Nat → Int32)} {kw : (Nat → Nat → Int32)} {past : (Nat → Int32)} {acts : Int32} (h : memE R c old cnt kl kb kf ks kw past acts) : memE R d old cnt kl kb kf ks kw past acts := by
  obtain ⟨c', o, S, h1, h2, h3, h4, h5, h6⟩ := h
  exact ⟨c', o, S, h1, h2, h3, h4, h5, fun i hi => ⟨(h6 i hi).1, (h6 i hi).2.1, stOK_up hcd (h6 i hi).2.2⟩⟩
theorem mrkE_up {R : Nat → Nat → Nat} {c d : Nat} (hcd : c ≤ d) {mk : Int32} {kl kb kf ks : (Nat → Int32)} {kw : (Nat → Nat → Int32)} {past : (Nat → Int32)} {acts : Int32} (h : mrkE R c mk kl kb kf ks kw past acts) : mrkE R d mk kl kb kf ks kw past acts := by
  obtain ⟨c', S, h1, h2, h3, h6⟩ := h
  exact ⟨c', S, h1, h2, h3, fun i hi => ⟨(h6 i hi).1, (h6 i hi).2.1, stOK_up hcd (h6 i hi).2.2⟩⟩
/-- nothing to be undone, no marks -/
theorem memE_0 (R : Nat → Nat → Nat) (cap : Nat) (kl kb kf ks : (Nat → Int32)) (kw : (Nat → Nat → Int32)) (past : (Nat → Int32)) : memE R cap 0 0 kl kb kf ks kw past 0 := ⟨0, 0, fun _ => (0, 0, 0, 0, fun _ => 0), rfl, rfl, rfl, by decide, by decide, fun i hi => absurd hi (by omega)⟩
theorem mrkE_0 (R : Nat → Nat → Nat) (cap : Nat) (kl kb kf ks : (Nat → Int32)) (kw : (Nat → Nat → Int32)) (past : (Nat → Int32)) : mrkE R cap 0 kl kb kf ks kw past 0 := ⟨0, fun _ => (0, 0, 0, 0, fun _ => 0), rfl, rfl, by decide, fun i hi => absurd hi (by omega)⟩
theorem csR_copy {k : Nat} (hk : k ≤ 7) {l b f s : Int32} {w w' : (Nat → Int32)} {q : (Nat × Nat × Nat × Nat × (Nat → Nat))} (h : csR k l b f s w q) (hw : ∀ j, j < 7 → w' j = w j) : csR k l b f s w' q :=
  ⟨h.1, h.2.1, h.2.2.1, h.2.2.2.1, fun j hj => by rw [hw j (by omega)]; exact h.2.2.2.2 j hj⟩
theorem ix16 (c r : Nat) : 16 * nI c + nI r = nI (16 * c + r) := by
  rw [show (16 : Int32) = nI 16 from rfl, pk_mul, nI_add]
theorem i16 {a : Nat} (ha : a < 2 ^ 31) : nI a - nI a / 16 * 16 = nI (a % 16) := pk_rem ha (by decide) (by decide)
/-- the class keeps a state -/
theorem s_keepB {o c : Nat} (ho : o < 16) (hc : c < 16) (kl kb kf ks : (Nat → Int32)) (kw : (Nat → Nat → Int32)) (l b f s : Int32) (w : (Nat → Int32)) :
    ∃ w', f_X2_keep_B32 (nI o) (nI c) kl kb kf ks kw l b f s w = some (nI o, nI (c + 1), va_up kl ((o + c) % 16) l, va_up kb ((o + c) % 16) b, va_up kf ((o + c) % 16) f, va_up ks ((o + c) % 16) s, va_up kw ((o + c) % 16) w') ∧ ∀ j, j < 7 → w' j = w j := by
  unfold f_X2_keep_B32
  obtain ⟨w', ew, hw⟩ := s_copy (kl ((o + c) % 16)) (kb ((o + c) % 16)) (kf ((o + c) % 16)) (ks ((o + c) % 16)) (kw ((o + c) % 16)) l b f s w
  refine ⟨w', ?_, hw⟩
  rw [nI_add, nm_eq, i16 (by omega), inb_nI (show (o + c) % 16 < 16 by omega) (by decide), gd_true, nm_eq, nI_clamp (show (o + c) % 16 < 2 ^ 31 by omega), ew, bind_some', nm_eq, nI_1]
/-- the reference's rows: one row written -/
theorem m_rowB {c : Nat} (hc : c < 16) (v past : (Nat → Int32)) : ∃ p', f_X12_remembers_B49 v past (nI c) = some (p', nI (c + 1)) ∧ (∀ x, x < 16 → p' (16 * c + x) = v x) ∧ ∀ y, y < 16 * c → p' y = past y := by
  unfold f_X12_remembers_B49
  refine loopK2 (A_1 := Int32) (A_2 := (Nat → Int32)) (F := fun n s_1 s_2 => f_X12_remembers_L51 (fun p => nm (nI c + 1) fun z7 => some (p, z7)) v (nI c) n s_1 s_2) (P := fun i s_1 s_2 => s_1 = nI i ∧ (∀ j, j < i → s_2 (16 * c + j) = v j) ∧ ∀ y, y < 16 * c → s_2 y = past y) (a := 0) (N := 16) (fuel := 2000) (i_1 := 0) (i_2 := past) ?_ (Nat.zero_le _) ?_ (by omega) ⟨rfl, fun j h => absurd h (by omega), fun _ _ => rfl⟩
  · rintro m y1 y2 ⟨z1, z2, z3⟩ e
    (try dsimp only at z1 z2 z3 e)
    subst z1
    exact ⟨y2, by rw [e, f_X12_remembers_L51, if_pos (show (16 : Int32) ≤ nI 16 from by decide), nm_eq, nI_1], z2, z3⟩
  · rintro m i y1 y2 - hi ⟨z1, z2, z3⟩
    (try dsimp only at z1 z2 z3 ⊢)
    subst z1
    rw [f_X12_remembers_L51, if_neg (show ¬ (16 : Int32) ≤ nI i from nI_ge (b := 16) (by omega) (by decide)), inb_nI (show i < 16 by omega) (by decide), gd_true, nm_eq, ix16, inb_nI (show 16 * c + i < 256 by omega) (by decide), gd_true, nm_eq, nI_clamp (show i < 2 ^ 31 by omega), nI_clamp (show 16 * c + i < 2 ^ 31 by omega), nI_1 i]
    refine ⟨_, _, rfl, ⟨rfl, fun j hj => ?_, fun y hy => ?_⟩⟩
    · (try dsimp only)
      by_cases e : j = i
      · subst e; rw [upd_s]
      · rw [upd_n _ _ (by omega)]; exact z2 j (by omega)
    · (try dsimp only)
      rw [upd_n _ _ (by omega)]; exact z3 y hy
/-- all rows one down -/
theorem m_shift (past : (Nat → Int32)) {K : (Nat → Int32) → Option ((Nat → Int32) × Int32)} : ∃ p', f_X12_remembers_L11 K 2000 0 past = K p' ∧ ∀ y, y < 240 → p' y = past (y + 16) := by
  refine loopK2 (A_1 := Int32) (A_2 := (Nat → Int32)) (F := fun n s_1 s_2 => f_X12_remembers_L11 K n s_1 s_2) (P := fun i s_1 s_2 => s_1 = nI i ∧ (∀ j, j < i → s_2 j = past (j + 16)) ∧ ∀ y, i ≤ y → s_2 y = past y) (a := 0) (N := 240) (fuel := 2000) (i_1 := 0) (i_2 := past) ?_ (Nat.zero_le _) ?_ (by omega) ⟨rfl, fun j h => absurd h (by omega), fun _ _ => rfl⟩
  · rintro m y1 y2 ⟨z1, z2, z3⟩ e
    (try dsimp only at z1 z2 z3 e)
    subst z1
    exact ⟨y2, by rw [e, f_X12_remembers_L11, if_pos (show (240 : Int32) ≤ nI 240 from by decide)], z2⟩
  · rintro m i y1 y2 - hi ⟨z1, z2, z3⟩
    (try dsimp only at z1 z2 z3 ⊢)
    subst z1
    rw [f_X12_remembers_L11, if_neg (show ¬ (240 : Int32) ≤ nI i from nI_ge (b := 240) (by omega) (by decide)), show nI i + 16 = nI (i + 16) from nI_add i 16, inb_nI (show i + 16 < 256 by omega) (by decide), gd_true, nm_eq, inb_nI (show i < 256 by omega) (by decide), gd_true, nm_eq, nI_clamp (show i < 2 ^ 31 by omega), nI_clamp (show i + 16 < 2 ^ 31 by omega), nI_1]
    refine ⟨_, _, rfl, ⟨rfl, fun j hj => ?_, fun y hy => ?_⟩⟩
    · (try dsimp only)
      by_cases e : j = i
      · subst e; rw [upd_s, z3 _ (by omega)]
      · rw [upd_n _ _ (by omega)]; exact z2 j (by omega)
    · (try dsimp only)
      rw [upd_n _ _ (by omega)]; exact z3 y (by omega)
/-- both keep the state now -/
theorem j_keep {R : Nat → Nat → Nat} (hR : rvOK R) {cap : Nat} {l b f s : Int32} {w v : (Nat → Int32)} (hN : nowE R cap l b f s w v) {old cnt : Int32} {kl kb kf ks : (Nat → Int32)} {kw : (Nat → Nat → Int32)} {past : (Nat → Int32)} {acts : Int32} (hM : memE R cap old cnt kl kb kf ks kw past acts) :
    ∃ o p, f_X2_keep old cnt kl kb kf ks kw l b f s w = some o ∧ f_X12_remembers v past acts = some p ∧ memE R cap o.1 o.2.1 o.2.2.1 o.2.2.2.1 o.2.2.2.2.1 o.2.2.2.2.2.1 o.2.2.2.2.2.2 p.1 p.2 := by
  have hk := hR.1.2.2.1
  obtain ⟨q, g1, g2, g3⟩ := hN
  obtain ⟨c, o, S, rfl, rfl, rfl, h4, h5, h6⟩ := hM
  unfold f_X2_keep f_X12_remembers
  by_cases h16 : c = 16
  · subst h16
    obtain ⟨p1, ep, hp⟩ := m_shift past (K := fun p => nm (nI 16 - 1) fun z13 => f_X12_remembers_B49 v p z13)
    obtain ⟨w', ew, hw⟩ := s_keepB (o := (o + 1) % 16) (c := 15) (by omega) (by omega) kl kb kf ks kw l b f s w
    obtain ⟨p2, ep2, hp2, hp3⟩ := m_rowB (c := 15) (by omega) v p1
    rw [if_pos (show nI 16 = 16 from rfl), if_pos (show nI 16 = 16 from rfl), nm_eq, nI_1, i16 (by omega), nm_eq, show nI 16 - 1 = nI 15 from rfl, ew]
    refine ⟨_, _, rfl, Eq.trans ep (by rw [nm_eq, show nI 16 - 1 = nI 15 from rfl]; exact ep2), 16, (o + 1) % 16, fun i => if i = 15 then q else S (i + 1), rfl, rfl, rfl, by omega, by omega, fun i hi => ?_⟩
    by_cases hi15 : i = 15
    · subst hi15
      simp only [if_true, va_up_self]
      exact ⟨csR_copy hk g1 hw, vR_same hk g2 (fun x hx => hp2 x hx), g3⟩
    · have hne : ((o + 1) % 16 + i) % 16 ≠ ((o + 1) % 16 + 15) % 16 := by omega
      have hee : ((o + 1) % 16 + i) % 16 = (o + (i + 1)) % 16 := by omega
      obtain ⟨b1, b2, b3⟩ := h6 (i + 1) (by omega)
      simp only [hi15, if_false, va_up_ne _ _ hne]
      rw [hee]
      refine ⟨b1, vR_same hk b2 (fun x hx => ?_), b3⟩
      show p2 (16 * i + x) = past (16 * (i + 1) + x)
      rw [hp3 _ (by omega), hp _ (by omega)]; refine congrArg past ?_; omega
  · obtain ⟨w', ew, hw⟩ := s_keepB (o := o) (c := c) (by omega) (by omega) kl kb kf ks kw l b f s w
    obtain ⟨p2, ep2, hp2, hp3⟩ := m_rowB (c := c) (by omega) v past
    have e16 : ¬ nI c = 16 := by rw [show (16 : Int32) = nI 16 from rfl, nI_eq (by omega) (by decide)]; exact h16
    rw [if_neg e16, if_neg e16, ew, ep2]
    refine ⟨_, _, rfl, rfl, c + 1, o, fun i => if i = c then q else S i, rfl, rfl, rfl, by omega, h5, fun i hi => ?_⟩
    by_cases hic : i = c
    · subst hic
      simp only [if_true, va_up_self]
      exact ⟨csR_copy hk g1 hw, vR_same hk g2 (fun x hx => hp2 x hx), g3⟩
    · have hne : (o + i) % 16 ≠ (o + c) % 16 := by omega
      obtain ⟨b1, b2, b3⟩ := h6 i (by omega)
      simp only [hic, if_false, va_up_ne _ _ hne]
      refine ⟨b1, vR_same hk b2 (fun x hx => ?_), b3⟩
      exact hp3 _ (by omega)
theorem m_undoL {c : Nat} (hc : c < 16) (v past : (Nat → Int32)) {K : (Nat → Int32) → Option (Int32 × Int32 × Int32 × Int32 × (Nat → Int32) × Int32)} : ∃ v', f_X12_undo_L38 K past (nI c) 2000 0 v = K v' ∧ ∀ x, x < 16 → v' x = past (16 * c + x) := by
  refine loopK2 (A_1 := Int32) (A_2 := (Nat → Int32)) (F := fun n s_1 s_2 => f_X12_undo_L38 K past (nI c) n s_1 s_2) (P := fun i s_1 s_2 => s_1 = nI i ∧ (∀ j, j < i → s_2 j = past (16 * c + j))) (a := 0) (N := 16) (fuel := 2000) (i_1 := 0) (i_2 := v) ?_ (Nat.zero_le _) ?_ (by omega) ⟨rfl, fun j h => absurd h (by omega)⟩
  · rintro m y1 y2 ⟨z1, z2⟩ e
    (try dsimp only at z1 z2 e)
    subst z1
    exact ⟨y2, by rw [e, f_X12_undo_L38, if_pos (show (16 : Int32) ≤ nI 16 from by decide)], z2⟩
  · rintro m i y1 y2 - hi ⟨z1, z2⟩
    (try dsimp only at z1 z2 ⊢)
    subst z1
    rw [f_X12_undo_L38, if_neg (show ¬ (16 : Int32) ≤ nI i from nI_ge (b := 16) (by omega) (by decide)), ix16, inb_nI (show 16 * c + i < 256 by omega) (by decide), gd_true, nm_eq, inb_nI (show i < 16 by omega) (by decide), gd_true, nm_eq, nI_clamp (show i < 2 ^ 31 by omega), nI_clamp (show 16 * c + i < 2 ^ 31 by omega), nI_1]
    refine ⟨_, _, rfl, ⟨rfl, fun j hj => ?_⟩⟩
    (try dsimp only)
    by_cases e : j = i
    · subst e; rw [upd_s]
    · rw [upd_n _ _ (by omega)]; exact z2 j (by omega)
theorem j_undo {R : Nat → Nat → Nat} (hR : rvOK R) {cap : Nat} {l b f s : Int32} {w v : (Nat → Int32)} (hN : nowE R cap l b f s w v) {old cnt : Int32} {kl kb kf ks : (Nat → Int32)} {kw : (Nat → Nat → Int32)} {past : (Nat → Int32)} {acts : Int32} (hM : memE R cap old cnt kl kb kf ks kw past acts) (tr th tr2 wh : Int32) :
    ∃ o p, f_X10_undo l b f s w old cnt kl kb kf ks kw tr = some o ∧ f_X12_undo th tr2 wh v past acts = some p ∧ p.1 = o.1 ∧ p.2.1 = 0 ∧ p.2.2.1 = o.2.2.2.2.2.2.2 ∧ p.2.2.2.1 = -1 ∧ ¬ o.2.2.2.2.2.2.2 = 4 ∧ nowE R cap o.2.1 o.2.2.1 o.2.2.2.1 o.2.2.2.2.1 o.2.2.2.2.2.1 p.2.2.2.2.1 ∧ memE R cap old o.2.2.2.2.2.2.1 kl kb kf ks kw past p.2.2.2.2.2 := by
  have hk := hR.1.2.2.1
  obtain ⟨c, o, S, rfl, rfl, rfl, h4, h5, h6⟩ := hM
  unfold f_X10_undo f_X12_undo
  by_cases h0 : c = 0
  · subst h0
    rw [if_pos (show nI 0 = 0 from rfl), if_pos (show nI 0 = 0 from rfl)]
    exact ⟨_, _, rfl, rfl, rfl, rfl, rfl, rfl, by show ¬ (6 : Int32) = 4; decide, hN, 0, o, S, rfl, rfl, rfl, h4, h5, h6⟩
  · have e0 : ¬ nI c = 0 := fun h => h0 ((nI_z (by omega)).mp h)
    have em : nI c - 1 = nI (c - 1) := nI_sub (b := 1) (by omega)
    obtain ⟨w', ew, hw⟩ := s_copy l b f s w (kl ((o + (c - 1)) % 16)) (kb ((o + (c - 1)) % 16)) (kf ((o + (c - 1)) % 16)) (ks ((o + (c - 1)) % 16)) (kw ((o + (c - 1)) % 16))
    have er : f_X2_restore (nI o) (nI c) kl kb kf ks kw l b f s w = some (nI (c - 1), kl ((o + (c - 1)) % 16), kb ((o + (c - 1)) % 16), kf ((o + (c - 1)) % 16), ks ((o + (c - 1)) % 16), w') := by
      unfold f_X2_restore
      rw [if_neg (show ¬ nI c ≤ 0 from nI_ge (a := 0) (by omega) (by omega)), em, nm_eq, nI_add, nm_eq, i16 (by omega), inb_nI (show (o + (c - 1)) % 16 < 16 by omega) (by decide), gd_true, nm_eq, nI_clamp (show (o + (c - 1)) % 16 < 2 ^ 31 by omega), ew]; rfl
    obtain ⟨v', ev, hv⟩ := m_undoL (c := c - 1) (by omega) v past (K := fun v => (f_X12_granted tr2 wh).bind fun o8 => gd (nbl o8.1) <| some (o8.1, 0, o8.2.1, o8.2.2, v, nI (c - 1)))
    rw [if_neg e0, if_neg e0, er, bind_some', nm_eq, em]
    obtain ⟨b1, b2, b3⟩ := h6 (c - 1) (by omega)
    refine ⟨_, _, rfl, Eq.trans ev rfl, rfl, rfl, rfl, rfl, by show ¬ (0 : Int32) = 4; decide, ⟨S (c - 1), csR_copy hk b1 hw, vR_same hk b2 hv, b3⟩, c - 1, o, S, rfl, rfl, rfl, by omega, h5, fun i hi => h6 i (by omega)⟩
theorem m_markL {c : Nat} (hc : c < 3) (v kept : (Nat → Int32)) {K : (Nat → Int32) → Option (Int32 × Int32 × Int32 × Int32 × (Nat → Int32) × Int32)} : ∃ p', f_X12_mark_L34 K v (nI c) 2000 0 kept = K p' ∧ (∀ x, x < 16 → p' (16 * c + x) = v x) ∧ ∀ y, y < 16 * c → p' y = kept y := by
  refine loopK2 (A_1 := Int32) (A_2 := (Nat → Int32)) (F := fun n s_1 s_2 => f_X12_mark_L34 K v (nI c) n s_1 s_2) (P := fun i s_1 s_2 => s_1 = nI i ∧ (∀ j, j < i → s_2 (16 * c + j) = v j) ∧ ∀ y, y < 16 * c → s_2 y = kept y) (a := 0) (N := 16) (fuel := 2000) (i_1 := 0) (i_2 := kept) ?_ (Nat.zero_le _) ?_ (by omega) ⟨rfl, fun j h => absurd h (by omega), fun _ _ => rfl⟩
  · rintro m y1 y2 ⟨z1, z2, z3⟩ e
    (try dsimp only at z1 z2 z3 e)
    subst z1
    exact ⟨y2, by rw [e, f_X12_mark_L34, if_pos (show (16 : Int32) ≤ nI 16 from by decide)], z2, z3⟩
  · rintro m i y1 y2 - hi ⟨z1, z2, z3⟩
    (try dsimp only at z1 z2 z3 ⊢)
    subst z1
    rw [f_X12_mark_L34, if_neg (show ¬ (16 : Int32) ≤ nI i from nI_ge (b := 16) (by omega) (by decide)), inb_nI (show i < 16 by omega) (by decide), gd_true, nm_eq, ix16, inb_nI (show 16 * c + i < 48 by omega) (by decide), gd_true, nm_eq, nI_clamp (show i < 2 ^ 31 by omega), nI_clamp (show 16 * c + i < 2 ^ 31 by omega), nI_1]
    refine ⟨_, _, rfl, ⟨rfl, fun j hj => ?_, fun y hy => ?_⟩⟩
    · (try dsimp only)
      by_cases e : j = i
      · subst e; rw [upd_s]
      · rw [upd_n _ _ (by omega)]; exact z2 j (by omega)
    · (try dsimp only)
      rw [upd_n _ _ (by omega)]; exact z3 y hy
theorem j_mark {R : Nat → Nat → Nat} (hR : rvOK R) {cap : Nat} {l b f s : Int32} {w v : (Nat → Int32)} (hN : nowE R cap l b f s w v) {mk : Int32} {kl kb kf ks : (Nat → Int32)} {kw : (Nat → Nat → Int32)} {kept : (Nat → Int32)} {marks : Int32} (hM : mrkE R cap mk kl kb kf ks kw kept marks) (tr th tr2 wh : Int32) :
    ∃ o p, f_X10_mark l b f s w mk kl kb kf ks kw (nI (R 0 0)) tr = some o ∧ f_X12_mark th tr2 wh v kept marks = some p ∧ p.1 = o.1 ∧ p.2.1 = 0 ∧ p.2.2.1 = o.2.2.2.2.2.2.2 ∧ p.2.2.2.1 = -1 ∧ ¬ o.2.2.2.2.2.2.2 = 4 ∧ mrkE R cap o.2.1 o.2.2.1 o.2.2.2.1 o.2.2.2.2.1 o.2.2.2.2.2.1 o.2.2.2.2.2.2.1 p.2.2.2.2.1 p.2.2.2.2.2 := by
  have hk := hR.1.2.2.1
  obtain ⟨q, g1, g2, g3⟩ := hN
  obtain ⟨c, S, rfl, rfl, h4, h6⟩ := hM
  unfold f_X10_mark f_X12_mark
  rw [s_noRiver hR, bind_some', if_pos rfl]
  by_cases h3 : c = 3
  · subst h3
    rw [if_neg (show ¬ nI 3 < 3 by decide), if_pos (show nI 3 = 3 from rfl)]
    exact ⟨_, _, rfl, rfl, rfl, rfl, rfl, rfl, by show ¬ (3 : Int32) = 4; decide, 3, S, rfl, rfl, h4, h6⟩
  · have e3 : ¬ nI c = 3 := by rw [show (3 : Int32) = nI 3 from rfl, nI_eq (by omega) (by decide)]; exact h3
    obtain ⟨w', ew, hw⟩ := s_copy (kl c) (kb c) (kf c) (ks c) (kw c) l b f s w
    obtain ⟨p', ep, hp1, hp2⟩ := m_markL (c := c) (by omega) v kept (K := fun k => nm (nI c + 1) fun z7 => (f_X12_good (z7 - 1) tr2 wh).bind fun o8 => some (o8.1, 0, o8.2.1, o8.2.2, k, z7))
    have hlt : nI c < 3 := nI_lt (b := 3) (by omega) (by decide)
    unfold f_X2_addMark
    rw [if_pos hlt, if_neg e3, if_pos hlt, inb_nI (show c < 3 by omega) (by decide), gd_true, nm_eq, nI_clamp (show c < 2 ^ 31 by omega), ew, bind_some', nm_eq]
    refine ⟨_, _, rfl, Eq.trans ep rfl, rfl, rfl, rfl, rfl, by show ¬ (0 : Int32) = 4; decide, c + 1, fun i => if i = c then q else S i, nI_1 c, nI_1 c, by omega, fun i hi => ?_⟩
    by_cases hic : i = c
    · subst hic
      simp only [if_true, va_up_self]
      exact ⟨csR_copy hk g1 hw, vR_same hk g2 (fun x hx => hp1 x hx), g3⟩
    · obtain ⟨b1, b2, b3⟩ := h6 i (by omega)
      simp only [hic, if_false, va_up_ne _ _ hic]
      exact ⟨b1, vR_same hk b2 (fun x hx => hp2 _ (by omega)), b3⟩
theorem m_backL {c : Nat} (hc : c < 3) (v kept : (Nat → Int32)) {K : (Nat → Int32) → Option (Int32 × Int32 × Int32 × Int32 × (Nat → Int32) × Int32)} : ∃ v', f_X12_back_L32 K (nI c) kept 2000 0 v = K v' ∧ ∀ x, x < 16 → v' x = kept (16 * c + x) := by
  refine loopK2 (A_1 := Int32) (A_2 := (Nat → Int32)) (F := fun n s_1 s_2 => f_X12_back_L32 K (nI c) kept n s_1 s_2) (P := fun i s_1 s_2 => s_1 = nI i ∧ (∀ j, j < i → s_2 j = kept (16 * c + j))) (a := 0) (N := 16) (fuel := 2000) (i_1 := 0) (i_2 := v) ?_ (Nat.zero_le _) ?_ (by omega) ⟨rfl, fun j h => absurd h (by omega)⟩
  · rintro m y1 y2 ⟨z1, z2⟩ e
    (try dsimp only at z1 z2 e)
    subst z1
    exact ⟨y2, by rw [e, f_X12_back_L32, if_pos (show (16 : Int32) ≤ nI 16 from by decide)], z2⟩
  · rintro m i y1 y2 - hi ⟨z1, z2⟩
    (try dsimp only at z1 z2 ⊢)
    subst z1
    rw [f_X12_back_L32, if_neg (show ¬ (16 : Int32) ≤ nI i from nI_ge (b := 16) (by omega) (by decide)), ix16, inb_nI (show 16 * c + i < 48 by omega) (by decide), gd_true, nm_eq, inb_nI (show i < 16 by omega) (by decide), gd_true, nm_eq, nI_clamp (show i < 2 ^ 31 by omega), nI_clamp (show 16 * c + i < 2 ^ 31 by omega), nI_1]
    refine ⟨_, _, rfl, ⟨rfl, fun j hj => ?_⟩⟩
    (try dsimp only)
    by_cases e : j = i
    · subst e; rw [upd_s]
    · rw [upd_n _ _ (by omega)]; exact z2 j (by omega)
theorem j_back {R : Nat → Nat → Nat} (hR : rvOK R) {cap : Nat} {l b f s : Int32} {w v : (Nat → Int32)} (hN : nowE R cap l b f s w v) {old cnt : Int32} {kl kb kf ks : (Nat → Int32)} {kw : (Nat → Nat → Int32)} {past : (Nat → Int32)} {acts : Int32} (hM0 : memE R cap old cnt kl kb kf ks kw past acts) {mk : Int32} {ml mb mf ms : (Nat → Int32)} {mw : (Nat → Nat → Int32)} {kept : (Nat → Int32)} {marks : Int32} (hM : mrkE R cap mk ml mb mf ms mw kept marks) (p1 tr th tr2 wh : Int32) :
    ∃ o p, f_X10_back p1 l b f s w old cnt mk ml mb mf ms mw tr = some o ∧ f_X12_back p1 th tr2 wh v kept acts marks = some p ∧ p.1 = o.1 ∧ p.2.1 = 0 ∧ p.2.2.1 = o.2.2.2.2.2.2.2.2 ∧ p.2.2.2.1 = -1 ∧ ¬ o.2.2.2.2.2.2.2.2 = 4 ∧ nowE R cap o.2.1 o.2.2.1 o.2.2.2.1 o.2.2.2.2.1 o.2.2.2.2.2.1 p.2.2.2.2.1 ∧ memE R cap o.2.2.2.2.2.2.1 o.2.2.2.2.2.2.2.1 kl kb kf ks kw past p.2.2.2.2.2 := by
  have hk := hR.1.2.2.1
  obtain ⟨c, S, rfl, rfl, h4, h6⟩ := hM
  unfold f_X10_back f_X12_back
  by_cases hlt : p1 < 0
  · rw [if_pos hlt, if_pos hlt]
    exact ⟨_, _, rfl, rfl, rfl, rfl, rfl, rfl, by show ¬ (1 : Int32) = 4; decide, hN, hM0⟩
  · rw [if_neg hlt, if_neg hlt]
    obtain ⟨r, hr, rfl⟩ := nat_of hlt
    by_cases hrc : r < c
    · have hltr : nI r < nI c := nI_lt hrc (by omega)
      obtain ⟨w', ew, hw⟩ := s_copy l b f s w (ml r) (mb r) (mf r) (ms r) (mw r)
      obtain ⟨v', ev, hv⟩ := m_backL (c := r) (by omega) v kept (K := fun v => (f_X12_granted tr2 wh).bind fun o10 => gd (nbl o10.1) <| some (o10.1, 0, o10.2.1, o10.2.2, v, 0))
      unfold f_X2_returnTo
      rw [if_pos hltr, if_pos hltr, if_neg hlt, if_neg (nI_ge hrc (by omega)), inb_nI (show r < 3 by omega) (by decide), gd_true, nm_eq, nI_clamp hr, ew, bind_some']
      obtain ⟨b1, b2, b3⟩ := h6 r hrc
      exact ⟨_, _, rfl, Eq.trans ev rfl, rfl, rfl, rfl, rfl, by show ¬ (0 : Int32) = 4; decide, ⟨S r, csR_copy hk b1 hw, vR_same hk b2 hv, b3⟩, memE_0 R cap kl kb kf ks kw past⟩
    · have hnl : ¬ nI r < nI c := nI_nlt (by omega) hr
      rw [if_neg hnl, if_neg hnl]
      exact ⟨_, _, rfl, rfl, rfl, rfl, rfl, rfl, by show ¬ (1 : Int32) = 4; decide, hN, hM0⟩
