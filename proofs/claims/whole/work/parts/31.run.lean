/-! the river as a table R: row 0: reaches, ropes, hands, boats, flow, tape, muds; rows 1..10: kind, wide, bank, at, pulls, bears, strong, boatWide, boatDeep, mud (0 none, else one more) -/
def rvOK (R : Nat → Nat → Nat) : Prop :=
  (1 ≤ R 0 0 ∧ R 0 0 ≤ 6 ∧ R 0 1 ≤ 7 ∧ R 0 2 ≤ 6 ∧ R 0 3 ≤ 5 ∧ 1 ≤ R 0 4 ∧ R 0 4 ≤ 900 ∧ 2 ≤ R 0 5 ∧ R 0 5 ≤ 40) ∧
  (∀ r, r < R 0 0 → R 1 r ≤ 3 ∧ 3 ≤ R 2 r ∧ R 2 r ≤ 40 ∧ 1 ≤ R 3 r ∧ R 3 r ≤ 99 ∧ R 10 r ≤ 901) ∧
  (∀ j, j < R 0 1 → R 4 j < R 0 0 ∧ 1 ≤ R 5 j ∧ R 5 j ≤ 9 ∧ 1 ≤ R 6 j ∧ R 6 j ≤ 99) ∧
  (∀ h, h < R 0 2 → 1 ≤ R 7 h ∧ R 7 h ≤ 99) ∧ (∀ b, b < R 0 3 → 1 ≤ R 8 b ∧ R 8 b ≤ 30 ∧ R 9 b ≤ 60)
/-- a row of the heap holds a row of the table -/
def rw_ (n : Nat) (f : Nat → Int32) (g : Nat → Nat) : Prop := ∀ i, i < n → f i = nI (g i)
/-- what the first j ropes of the set L pull at reach r -/
def pl (R : Nat → Nat → Nat) (L r : Nat) : Nat → Nat
  | 0 => 0
  | j + 1 => pl R L r j + if (L.testBit j && decide (R 4 j = r)) = true then R 5 j else 0
theorem pl_le {R : Nat → Nat → Nat} (h : rvOK R) (L r : Nat) : ∀ j, j ≤ R 0 1 → pl R L r j ≤ 9 * j
  | 0, _ => Nat.le_refl _
  | j + 1, hj => by
    have ih := pl_le h L r j (by omega)
    have h5 := (h.2.2.1 j (by omega)).2.2.1
    simp only [pl]
    split <;> omega
/-- WIDTH, pulled by e more -/
def wE (R : Nat → Nat → Nat) (L : Nat) (e : Nat → Nat) (r : Nat) : Nat := max 1 (R 2 r - pl R L r (R 0 1) - e r)
def wN (R : Nat → Nat → Nat) (L r : Nat) : Nat := max 1 (R 2 r - pl R L r (R 0 1))
/-- what spills of water w at reach r, by widths W; what is lost -/
def sp1 (R : Nat → Nat → Nat) (W : Nat → Nat) (r w : Nat) : Nat := (w / W r - R 3 r) * W r
def lo1 (R : Nat → Nat → Nat) (W : Nat → Nat) (r w : Nat) : Nat := if R 1 r = 1 then sp1 R W r w - sp1 R W r w / 2 else sp1 R W r w
/-- WATER into reach r -/
def wt (R : Nat → Nat → Nat) (W : Nat → Nat) (f : Nat) : Nat → Nat
  | 0 => f
  | r + 1 => wt R W f r - lo1 R W r (wt R W f r)
def dp (R : Nat → Nat → Nat) (W : Nat → Nat) (f r : Nat) : Nat := wt R W f r / W r
def sl (R : Nat → Nat → Nat) (W : Nat → Nat) (f r : Nat) : Nat := sp1 R W r (wt R W f r)
def h1 (kind s : Nat) : Nat := if kind = 1 then 0 else if kind = 2 then 2 * s else if kind = 3 then (if s = 0 then 0 else s + 20) else s
def hmr (R : Nat → Nat → Nat) (W : Nat → Nat) (f r : Nat) : Nat := h1 (R 1 r) (sl R W f r)
def hsum (R : Nat → Nat → Nat) (W : Nat → Nat) (f : Nat) : Nat → Nat
  | 0 => 0
  | r + 1 => hsum R W f r + hmr R W f r
/-- HARM of all -/
def harmN (R : Nat → Nat → Nat) (W : Nat → Nat) (f : Nat) : Nat := hsum R W f (R 0 0)
theorem sp1_le (R : Nat → Nat → Nat) (W : Nat → Nat) (r w : Nat) : sp1 R W r w ≤ w := by
  unfold sp1
  exact Nat.le_trans (Nat.mul_le_mul_right _ (Nat.sub_le _ _)) (Nat.div_mul_le_self w (W r))
theorem lo1_le (R : Nat → Nat → Nat) (W : Nat → Nat) (r w : Nat) : lo1 R W r w ≤ w := by
  have h := sp1_le R W r w
  unfold lo1
  split <;> omega
theorem wt_le (R : Nat → Nat → Nat) (W : Nat → Nat) (f : Nat) : ∀ r, wt R W f r ≤ f
  | 0 => Nat.le_refl _
  | r + 1 => by
    have := wt_le R W f r
    simp only [wt]
    omega
theorem dp_le (R : Nat → Nat → Nat) (W : Nat → Nat) (f r : Nat) : dp R W f r ≤ f := Nat.le_trans (Nat.div_le_self _ _) (wt_le R W f r)
theorem sl_le (R : Nat → Nat → Nat) (W : Nat → Nat) (f r : Nat) : sl R W f r ≤ f := Nat.le_trans (sp1_le R W r _) (wt_le R W f r)
theorem hmr_le (R : Nat → Nat → Nat) (W : Nat → Nat) (f r : Nat) : hmr R W f r ≤ 2 * f + 20 := by
  have := sl_le R W f r
  unfold hmr h1
  split <;> (try split) <;> (try split) <;> (try split) <;> omega
theorem hsum_le (R : Nat → Nat → Nat) (W : Nat → Nat) (f : Nat) : ∀ n, hsum R W f n ≤ n * (2 * f + 20)
  | 0 => by simp [hsum]
  | n + 1 => by
    have h1 := hsum_le R W f n
    have h2 := hmr_le R W f n
    simp only [hsum]
    rw [Nat.succ_mul]
    omega
theorem wN_le {R : Nat → Nat → Nat} (h : rvOK R) (L : Nat) {r : Nat} (hr : r < R 0 0) : 1 ≤ wN R L r ∧ wN R L r ≤ 40 := by
  have := (h.2.1 r hr).2.2.1
  unfold wN
  omega
theorem wE_le {R : Nat → Nat → Nat} (h : rvOK R) (L : Nat) (e : Nat → Nat) {r : Nat} (hr : r < R 0 0) : 1 ≤ wE R L e r ∧ wE R L e r ≤ 40 := by
  have := (h.2.1 r hr).2.2.1
  unfold wE
  omega
/-! the class: narrow -/
theorem L_narrow1 {k : (Nat → Int32) → Option (Nat → Int32)} {n : Nat} (hn : n ≤ 6) {wide : Nat → Int32} : ∀ (d i fuel : Nat) (w : Nat → Int32), i + d = n → d < fuel → (∀ r, r < i → w r = wide r) →
    ∃ w', f_X8_narrow_L2 k (nI n) wide fuel (nI i) w = k w' ∧ ∀ r, r < n → w' r = wide r := by
  intro d
  induction d with
  | zero =>
    intro i fuel w hi hf hw
    obtain ⟨m, rfl⟩ := Nat.exists_eq_succ_of_ne_zero (show fuel ≠ 0 by omega)
    rw [f_X8_narrow_L2, if_pos (nI_le (by omega) (by omega))]
    exact ⟨w, rfl, fun r hr => hw r (by omega)⟩
  | succ d ih =>
    intro i fuel w hi hf hw
    obtain ⟨m, rfl⟩ := Nat.exists_eq_succ_of_ne_zero (show fuel ≠ 0 by omega)
    rw [f_X8_narrow_L2, if_neg (nI_ge (by omega) (by omega))]
    simp only [inb_nI (show i < 6 by omega) (by decide), gd_true, nm_eq, nI_clamp (show i < 2 ^ 31 by omega), nI_1]
    refine ih (i + 1) m _ (by omega) (by omega) (fun r hr => ?_)
    by_cases h : r = i
    · subst h; exact upd_s _ _ _
    · rw [upd_n _ _ h]; exact hw r (by omega)
theorem L_narrow2 {k : (Nat → Int32) → Option (Nat → Int32)} {R : Nat → Nat → Nat} (hR : rvOK R) {L : Nat} (hL : L < 2 ^ 31) {at_ pulls : Nat → Int32} (ha : rw_ (R 0 1) at_ (R 4)) (hp : rw_ (R 0 1) pulls (R 5)) : ∀ (d i fuel : Nat) (w : Nat → Int32), i + d = R 0 1 → d < fuel → (∀ r, r < R 0 0 → w r = nI (R 2 r) - nI (pl R L r i)) →
    ∃ w', f_X8_narrow_L30 k (nI L) (nI (R 0 1)) at_ pulls fuel (nI i) w = k w' ∧ ∀ r, r < R 0 0 → w' r = nI (R 2 r) - nI (pl R L r (R 0 1)) := by
  have hk := hR.1.2.2.1
  have hn := hR.1.2.1
  intro d
  induction d with
  | zero =>
    intro i fuel w hi hf hw
    obtain ⟨m, rfl⟩ := Nat.exists_eq_succ_of_ne_zero (show fuel ≠ 0 by omega)
    rw [f_X8_narrow_L30, if_pos (nI_le (by omega) (by omega))]
    exact ⟨w, rfl, fun r hr => by rw [hw r hr, show i = R 0 1 by omega]⟩
  | succ d ih =>
    intro i fuel w hi hf hw
    obtain ⟨m, rfl⟩ := Nat.exists_eq_succ_of_ne_zero (show fuel ≠ 0 by omega)
    have h4 := (hR.2.2.1 i (by omega)).1
    rw [f_X8_narrow_L30, if_neg (nI_ge (by omega) (by omega)), isIn_nI hL (by omega), bind_some']
    by_cases hb : L.testBit i = true
    · rw [if_pos hb, if_neg (by decide)]
      simp only [inb_nI (show i < 7 by omega) (by decide), gd_true, nm_eq, nI_clamp (show i < 2 ^ 31 by omega), nI_1, ha i (by omega), hp i (by omega), inb_nI (show R 4 i < 6 by omega) (by decide), nI_clamp (show R 4 i < 2 ^ 31 by omega)]
      refine ih (i + 1) m _ (by omega) (by omega) (fun r hr => ?_)
      by_cases h : r = R 4 i
      · rw [h, upd_s, hw _ h4, pl, hb, Bool.true_and, if_pos (decide_eq_true rfl), ← nI_add]
        generalize nI (R 2 (R 4 i)) = x; generalize nI (pl R L (R 4 i) i) = y; generalize nI (R 5 i) = z
        apply Int32.toBitVec_inj.mp; simp only [Int32.toBitVec_sub, Int32.toBitVec_add]; bv_omega
      · rw [upd_n _ _ h, hw r hr, pl, hb, Bool.true_and, if_neg (by simp; exact Ne.symm h), Nat.add_zero]
    · rw [if_neg hb, if_pos rfl, nI_1]
      refine ih (i + 1) m _ (by omega) (by omega) (fun r hr => ?_)
      rw [hw r hr, pl]
      simp [hb]
theorem L_narrow3 {k : (Nat → Int32) → Option (Nat → Int32)} {n : Nat} (hn : n ≤ 6) {g0 : Nat → Int32} {g : Nat → Nat} (hg : ∀ r, r < n → (if (1 : Int32) < g0 r then g0 r else 1) = nI (g r)) : ∀ (d i fuel : Nat) (w : Nat → Int32), i + d = n → d < fuel → (∀ r, r < i → w r = nI (g r)) → (∀ r, i ≤ r → r < n → w r = g0 r) →
    ∃ w', f_X8_narrow_L74 k (nI n) fuel (nI i) w = k w' ∧ rw_ n w' g := by
  intro d
  induction d with
  | zero =>
    intro i fuel w hi hf hw hw2
    obtain ⟨m, rfl⟩ := Nat.exists_eq_succ_of_ne_zero (show fuel ≠ 0 by omega)
    rw [f_X8_narrow_L74, if_pos (nI_le (by omega) (by omega))]
    exact ⟨w, rfl, fun r hr => hw r (by omega)⟩
  | succ d ih =>
    intro i fuel w hi hf hw hw2
    obtain ⟨m, rfl⟩ := Nat.exists_eq_succ_of_ne_zero (show fuel ≠ 0 by omega)
    rw [f_X8_narrow_L74, if_neg (nI_ge (by omega) (by omega))]
    simp only [inb_nI (show i < 6 by omega) (by decide), gd_true, nm_eq, nI_clamp (show i < 2 ^ 31 by omega), nI_1]
    refine ih (i + 1) m _ (by omega) (by omega) (fun r hr => ?_) (fun r h1 h2 => ?_)
    · by_cases h : r = i
      · subst h; rw [upd_s, hw2 r (Nat.le_refl _) (by omega), hg r (by omega)]
      · rw [upd_n _ _ h]; exact hw r (by omega)
    · rw [upd_n _ _ (by omega)]; exact hw2 r (by omega) h2
/-- Water.narrow: the widths -/
theorem s_narrow {R : Nat → Nat → Nat} (hR : rvOK R) {L : Nat} (hL : L < 2 ^ 31) {w wide at_ pulls : Nat → Int32} (hw : rw_ (R 0 0) wide (R 2)) (ha : rw_ (R 0 1) at_ (R 4)) (hp : rw_ (R 0 1) pulls (R 5)) :
    ∃ w', f_X8_narrow (nI L) w (nI (R 0 0)) (nI (R 0 1)) wide at_ pulls = some w' ∧ rw_ (R 0 0) w' (wN R L) := by
  have hn := hR.1.2.1
  have hk := hR.1.2.2.1
  unfold f_X8_narrow
  obtain ⟨w1, e1, q1⟩ := L_narrow1 (k := fun t_width_2 => f_X8_narrow_L30 (fun t_width_30 => f_X8_narrow_L74 (fun t_width_74 => some t_width_74) (nI (R 0 0)) 2000 0 t_width_30) (nI L) (nI (R 0 1)) at_ pulls 2000 0 t_width_2) hn (wide := wide) (R 0 0) 0 2000 w (by omega) (by omega) (fun r h => absurd h (by omega))
  obtain ⟨w2, e2, q2⟩ := L_narrow2 (k := fun t_width_30 => f_X8_narrow_L74 (fun t_width_74 => some t_width_74) (nI (R 0 0)) 2000 0 t_width_30) hR hL ha hp (R 0 1) 0 2000 w1 (by omega) (by omega) (fun r hr => by rw [q1 r hr, hw r hr, pl]; simp [nI])
  obtain ⟨w3, e3, q3⟩ := L_narrow3 (k := fun t_width_74 => some t_width_74) hn (g0 := w2) (g := wN R L) (fun r hr => by
    have h2 := (hR.2.1 r hr).2.2.1
    have h3 := pl_le hR L r (R 0 1) (Nat.le_refl _)
    rw [q2 r hr]; exact sub_max1 (by omega) (by omega)) (R 0 0) 0 2000 w2 (by omega) (by omega) (fun r h => absurd h (by omega)) (fun r _ _ => rfl)
  exact ⟨w3, e1.trans (e2.trans e3), q3⟩
/-! the class: pour -/
theorem s_harmBySpill {kind s : Nat} (hk : kind ≤ 3) (hs : s < 2 ^ 20) : f_X8_harmBySpill (nI kind) (nI s) = some (nI (h1 kind s)) := by
  unfold f_X8_harmBySpill h1
  rcases (show kind = 0 ∨ kind = 1 ∨ kind = 2 ∨ kind = 3 by omega) with rfl | rfl | rfl | rfl
  · rfl
  · rfl
  · rw [if_neg (by decide), if_pos (by decide), if_neg (by decide), if_pos rfl, show (2 : Int32) = nI 2 from rfl, pk_mul]
  · by_cases h : s = 0
    · subst h; rfl
    · rw [if_neg (show ¬ nI 3 = 1 by decide), if_neg (show ¬ nI 3 = 2 by decide), if_pos (show nI 3 = 3 by decide), if_neg (nI_nle (n := s) (by omega) (by omega)), if_neg (show ¬ (3 : Nat) = 1 by decide), if_neg (show ¬ (3 : Nat) = 2 by decide), if_pos (show (3 : Nat) = 3 from rfl), if_neg h, show (20 : Int32) = nI 20 from rfl, nI_add]
/-- what the water's rows hold behind the first i reaches -/
def pourI (R : Nat → Nat → Nat) (W : Nat → Nat) (f i : Nat) (co de sp ha : Nat → Int32) (be al si : Int32) : Prop :=
  rw_ i co (wt R W f) ∧ rw_ i de (dp R W f) ∧ rw_ i sp (sl R W f) ∧ rw_ i ha (hmr R W f) ∧ be = nI (wt R W f i) ∧ al = nI (hsum R W f i) ∧ si = nI (bs (fun r => decide (0 < sl R W f r)) i)
theorem rw_up {i : Nat} {f : Nat → Int32} {g : Nat → Nat} {x : Int32} (h : rw_ i f g) (hx : x = nI (g i)) : rw_ (i + 1) (upd f i x) g := by
  intro r hr
  by_cases e : r = i
  · rw [e, upd_s, hx]
  · rw [upd_n _ _ e]; exact h r (by omega)
theorem s_pourInto {R : Nat → Nat → Nat} (hR : rvOK R) {W : Nat → Nat} (hW : ∀ r, r < R 0 0 → 1 ≤ W r ∧ W r ≤ 40) {f : Nat} (hf : f < 2 ^ 16) {w kind bank : Nat → Int32} (hw : rw_ (R 0 0) w W) (hk : rw_ (R 0 0) kind (R 1)) (hb : rw_ (R 0 0) bank (R 3)) {i : Nat} (hi : i < R 0 0) {co de sp ha : Nat → Int32} {be al si : Int32} (hI : pourI R W f i co de sp ha be al si) :
    ∃ co' de' sp' ha' be' al' si', f_X8_pourInto (nI i) w co de sp ha be al si kind bank = some (co', de', sp', ha', be', al', si') ∧ pourI R W f (i + 1) co' de' sp' ha' be' al' si' := by
  obtain ⟨h_1, h_2, h_3, h_4, rfl, rfl, rfl⟩ := hI
  have hn := hR.1.2.1
  obtain ⟨hkd, -, -, hb1, hb2, -⟩ := hR.2.1 i hi
  have hWi := hW i hi
  have hwt := wt_le R W f i
  have hdp := dp_le R W f i
  have hsl := sl_le R W f i
  have ei : inb (nI i) 6 = true := inb_nI (by omega) (by decide)
  have ec : (nI i).toNatClampNeg = i := nI_clamp (by omega)
  have e1 : (if (1 : Int32) < w i then w i else 1) = nI (W i) := by rw [hw i hi, max1_nI (by omega), show max 1 (W i) = W i by omega]
  have e2 : nI (wt R W f i) / nI (W i) = nI (dp R W f i) := pk_div (by omega) (by omega) (by omega)
  have e3 : (if (0 : Int32) < nI (dp R W f i) - nI (R 3 i) then nI (dp R W f i) - nI (R 3 i) else 0) * nI (W i) = nI (sl R W f i) := by
    rw [sub_max0 (by omega) (by omega), pk_mul]; rfl
  have e4 : f_X8_harmBySpill (nI (R 1 i)) (nI (sl R W f i)) = some (nI (hmr R W f i)) := s_harmBySpill hkd (by omega)
  have hB : ∀ (be' : Int32), be' = nI (wt R W f (i + 1)) → ∃ co' de' sp' ha' be2 al' si', f_X8_pourInto_B121 (nI i) (upd co i (nI (wt R W f i))) (upd de i (nI (dp R W f i))) (upd sp i (nI (sl R W f i))) (upd ha i (nI (hmr R W f i))) be' (nI (hsum R W f i)) (nI (bs (fun r => decide (0 < sl R W f r)) i)) = some (co', de', sp', ha', be2, al', si') ∧ pourI R W f (i + 1) co' de' sp' ha' be2 al' si' := by
    intro be' hbe
    unfold f_X8_pourInto_B121
    simp only [ei, ec, gd_true, nm_eq, upd_s, nI_add]
    by_cases h0 : sl R W f i = 0
    · rw [if_pos (by rw [h0]; decide)]
      refine ⟨_, _, _, _, _, _, _, rfl, rw_up h_1 rfl, rw_up h_2 rfl, rw_up h_3 rfl, rw_up h_4 rfl, hbe, rfl, ?_⟩
      simp [bs, h0]
    · rw [if_neg (nI_nle (by omega) (by omega))]
      refine ⟨_, _, _, _, _, _, _, rfl, rw_up h_1 rfl, rw_up h_2 rfl, rw_up h_3 rfl, rw_up h_4 rfl, hbe, rfl, ?_⟩
      rw [bs_step _ (by omega), bs, if_pos (decide_eq_true (by omega))]
  unfold f_X8_pourInto
  simp only [ei, ec, gd_true, nm_eq, e1, nz_nI (show 0 < W i by omega) (by omega), e2, upd_s, hb i hi, e3, hk i hi, e4, bind_some']
  have e5 : nI (wt R W f i) - nI (sl R W f i) = nI (wt R W f i - sl R W f i) := nI_sub (sp1_le R W i _)
  by_cases h1 : R 1 i = 1
  · rw [if_pos (by rw [h1]; rfl)]
    refine hB _ ?_
    rw [e5, show (2 : Int32) = nI 2 from rfl, pk_div (by omega) (by decide) (by decide), nI_add]
    congr 1
    have hle := sp1_le R W i (wt R W f i)
    show wt R W f i - sl R W f i + sl R W f i / 2 = wt R W f i - lo1 R W i (wt R W f i)
    unfold lo1 sl at *
    rw [if_pos h1]
    omega
  · rw [if_neg (by rw [show (1 : Int32) = nI 1 from rfl, nI_eq (by omega) (by decide)]; exact h1)]
    refine hB _ ?_
    rw [e5]
    congr 1
    show wt R W f i - sl R W f i = wt R W f i - lo1 R W i (wt R W f i)
    unfold lo1
    rw [if_neg h1]; rfl
theorem L_pour {T : Type} {k : (Nat → Int32) → (Nat → Int32) → (Nat → Int32) → (Nat → Int32) → Int32 → Int32 → Int32 → Option ((Nat → Int32) × (Nat → Int32) × (Nat → Int32) × (Nat → Int32) × Int32 × Int32 × Int32)} {R : Nat → Nat → Nat} (hR : rvOK R) {W : Nat → Nat} (hW : ∀ r, r < R 0 0 → 1 ≤ W r ∧ W r ≤ 40) {f : Nat} (hf : f < 2 ^ 16) {w kind bank : Nat → Int32} (hw : rw_ (R 0 0) w W) (hk : rw_ (R 0 0) kind (R 1)) (hb : rw_ (R 0 0) bank (R 3)) : ∀ (d i fuel : Nat) (co de sp ha : Nat → Int32) (be al si : Int32), i + d = R 0 0 → d < fuel → pourI R W f i co de sp ha be al si →
    ∃ co' de' sp' ha' be' al' si', f_X8_pour_L17 k w (nI (R 0 0)) kind bank fuel (nI i) co de sp ha be al si = k co' de' sp' ha' be' al' si' ∧ pourI R W f (R 0 0) co' de' sp' ha' be' al' si' := by
  have hn := hR.1.2.1
  intro d
  induction d with
  | zero =>
    intro i fuel co de sp ha be al si hi hf hI
    obtain ⟨m, rfl⟩ := Nat.exists_eq_succ_of_ne_zero (show fuel ≠ 0 by omega)
    rw [f_X8_pour_L17, if_pos (nI_le (by omega) (by omega))]
    exact ⟨_, _, _, _, _, _, _, rfl, by rw [show R 0 0 = i by omega]; exact hI⟩
  | succ d ih =>
    intro i fuel co de sp ha be al si hi hf' hI
    obtain ⟨m, rfl⟩ := Nat.exists_eq_succ_of_ne_zero (show fuel ≠ 0 by omega)
    rw [f_X8_pour_L17, if_neg (nI_ge (by omega) (by omega))]
    obtain ⟨c1, c2, c3, c4, c5, c6, c7, e, hI'⟩ := s_pourInto hR hW hf hw hk hb (show i < R 0 0 by omega) hI
    rw [e, bind_some', nI_1]
    exact ih (i + 1) m _ _ _ _ _ _ _ (by omega) (by omega) hI'
/-- Water.pour: the water through all reaches -/
theorem s_pour {R : Nat → Nat → Nat} (hR : rvOK R) {W : Nat → Nat} (hW : ∀ r, r < R 0 0 → 1 ≤ W r ∧ W r ≤ 40) {f : Nat} (hf : f < 2 ^ 16) {w kind bank : Nat → Int32} (hw : rw_ (R 0 0) w W) (hk : rw_ (R 0 0) kind (R 1)) (hb : rw_ (R 0 0) bank (R 3)) (co de sp ha : Nat → Int32) (be al si : Int32) :
    ∃ co' de' sp' ha' be' al' si', f_X8_pour (nI f) w co de sp ha be al si (nI (R 0 0)) kind bank = some (co', de', sp', ha', be', al', si') ∧ pourI R W f (R 0 0) co' de' sp' ha' be' al' si' := by
  have hn := hR.1.2.1
  unfold f_X8_pour
  exact L_pour (T := Unit) hR hW hf hw hk hb (R 0 0) 0 2000 co de sp ha (nI f) 0 0 (by omega) (by omega) ⟨fun _ h => absurd h (by omega), fun _ h => absurd h (by omega), fun _ h => absurd h (by omega), fun _ h => absurd h (by omega), rfl, rfl, rfl⟩
/-- Water.run -/
theorem s_run {R : Nat → Nat → Nat} (hR : rvOK R) {L : Nat} (hL : L < 2 ^ 31) {f : Nat} (hf : f < 2 ^ 16) {kind wide bank at_ pulls : Nat → Int32} (hk : rw_ (R 0 0) kind (R 1)) (hw : rw_ (R 0 0) wide (R 2)) (hb : rw_ (R 0 0) bank (R 3)) (ha : rw_ (R 0 1) at_ (R 4)) (hp : rw_ (R 0 1) pulls (R 5)) (w co de sp ha0 : Nat → Int32) (be al si : Int32) :
    ∃ w' co' de' sp' ha' be' al' si', f_X8_run (nI L) (nI f) w co de sp ha0 be al si (nI (R 0 0)) (nI (R 0 1)) kind wide bank at_ pulls = some (w', co', de', sp', ha', be', al', si') ∧ rw_ (R 0 0) w' (wN R L) ∧ pourI R (wN R L) f (R 0 0) co' de' sp' ha' be' al' si' := by
  unfold f_X8_run
  obtain ⟨w', e1, q1⟩ := s_narrow hR hL (w := w) hw ha hp
  obtain ⟨c1, c2, c3, c4, c5, c6, c7, e2, q2⟩ := s_pour hR (fun r hr => wN_le hR L hr) hf q1 hk hb co de sp ha0 be al si
  rw [e1, bind_some', e2, bind_some']
  exact ⟨_, _, _, _, _, _, _, _, rfl, q1, q2⟩
