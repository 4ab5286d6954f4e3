/-! parishes -/
theorem isPull_or (p : Int32) : (f_X10_isPull p = some 0 ∧ f_X12_in p 0 5 = some 0) ∨ (∃ x, x ≤ 5 ∧ p = nI x ∧ f_X10_isPull p = some 1 ∧ f_X12_in p 0 5 = some 1) := by
  unfold f_X10_isPull f_X12_in
  by_cases h : p < 0
  · left; rw [if_pos h]; exact ⟨rfl, rfl⟩
  · rw [if_neg h]
    by_cases h2 : 5 < p
    · left; rw [if_pos h2]; exact ⟨rfl, rfl⟩
    · right
      obtain ⟨x, hx, rfl⟩ := nat_of h
      refine ⟨x, ?_, rfl, ?_⟩
      · rw [i32_lt, nI_toInt hx] at h2
        have e1 : (5 : Int32).toInt = 5 := rfl
        omega
      · rw [if_neg h2]; exact ⟨rfl, rfl⟩
def wP (R : Nat → Nat → Nat) (L a b : Nat) : Nat → Nat := wE R L (pe (R 0 0) a b)
/-- what the one, and the other one, has -/
def pO (R : Nat → Nat → Nat) (L f a b : Nat) : Int32 := nI (3 * a) - nI (hmr R (wP R L a b) f 0)
def pT (R : Nat → Nat → Nat) (L f a b : Nat) : Int32 := nI (3 * b) - nI (hmr R (wP R L a b) f (R 0 0 - 1))
theorem s_narrowMore {n r a : Nat} (hr : r < n) (hn : n ≤ 6) (ha : a ≤ 5) {w : Nat → Int32} {W : Nat → Nat} (hw : rw_ n w W) (hW : W r < 2 ^ 30) : ∃ w', f_X8_narrowMore (nI r) (nI a) w = some w' ∧ rw_ n w' (fun i => if i = r then max 1 (W r - a) else W i) := by
  unfold f_X8_narrowMore
  simp only [inb_nI (show r < 6 by omega) (by decide), gd_true, nm_eq, nI_clamp (show r < 2 ^ 31 by omega), hw r hr, sub_max1 hW (show a < 2 ^ 30 by omega)]
  refine ⟨_, rfl, fun i hi => ?_⟩
  by_cases e : i = r
  · subst e; rw [upd_s]; simp
  · rw [upd_n _ _ e, hw i hi]; simp [e]
theorem rw_congr {n : Nat} {f : Nat → Int32} {g g' : Nat → Nat} (h : rw_ n f g) (hg : ∀ i, i < n → g i = g' i) : rw_ n f g' := fun i hi => by rw [h i hi, hg i hi]
theorem s_pull {R : Nat → Nat → Nat} (hR : rvOK R) (h2 : 2 ≤ R 0 0) {L f a b : Nat} (hL : L < 2 ^ R 0 1) (hf : f < 2 ^ 16) (ha5 : a ≤ 5) (hb5 : b ≤ 5) {kind wide bank at_ pulls : Nat → Int32} (T : tR R kind wide bank at_ pulls) (w co de sp ha : Nat → Int32) (be al si o0 t0 : Int32) :
    ∃ w' co' de' sp' ha' be' al' si', f_X4_pull (nI a) (nI b) w co de sp ha be al si o0 t0 (nI (R 0 0)) (nI (R 0 1)) kind wide bank at_ pulls (nI L) (nI f) = some (w', co', de', sp', ha', be', al', si', pO R L f a b, pT R L f a b) := by
  have hn := hR.1.2.1
  have hk := hR.1.2.2.1
  obtain ⟨w1, e1, q1⟩ := s_narrow hR (pow_k hk hL) (w := w) T.wide T.at_ T.pulls
  obtain ⟨w2, e2, q2⟩ := s_narrowMore (r := 0) (a := a) (show 0 < R 0 0 by omega) hn ha5 q1 (by have := (wN_le hR L (show 0 < R 0 0 by omega)).2; omega)
  obtain ⟨w3, e3, q3⟩ := s_narrowMore (r := R 0 0 - 1) (a := b) (show R 0 0 - 1 < R 0 0 by omega) hn hb5 q2 (by
    have := (wN_le hR L (show R 0 0 - 1 < R 0 0 by omega)).2
    (try dsimp only)
    rw [if_neg (by omega)]; omega)
  have q4 : rw_ (R 0 0) w3 (wP R L a b) := by
    refine rw_congr q3 (fun i hi => ?_)
    (try dsimp only)
    unfold wP wE wN pe
    by_cases i0 : i = 0
    · subst i0
      have n1 : ¬ 0 = R 0 0 - 1 := by omega
      rw [if_neg n1, if_pos rfl, if_pos rfl, if_neg n1]
      omega
    · by_cases i9 : i = R 0 0 - 1
      · rw [if_pos i9, if_neg i0, if_pos i9, if_neg (show ¬ R 0 0 - 1 = 0 by omega), i9]
        omega
      · rw [if_neg i9, if_neg i0, if_neg i0, if_neg i9]; omega
  obtain ⟨c1, c2, c3, c4, c5, c6, c7, e5, hco, hde, hsp, hha, hrest⟩ := s_pour hR (fun r hr => wE_le hR L (pe (R 0 0) a b) hr) hf q4 T.kind T.bank co de sp ha be al si
  refine ⟨w3, c1, c2, c3, c4, c5, c6, c7, ?_⟩
  have el : (if (0 : Int32) < nI (R 0 0) - 1 then nI (R 0 0) - 1 else 0) = nI (R 0 0 - 1) := by
    rw [show (1 : Int32) = nI 1 from rfl, nI_sub (by omega), if_pos (show (0 : Int32) < nI (R 0 0 - 1) from nI_lt (a := 0) (by omega) (by omega))]
  unfold f_X4_pull
  rw [nm_eq, el, e1, bind_some', show f_X8_narrowMore 0 (nI a) w1 = some w2 from e2, bind_some', e3, bind_some', e5, bind_some']
  (try dsimp only)
  rw [show inb 0 6 = true by decide, gd_true, nm_eq, inb_nI (show R 0 0 - 1 < 6 by omega) (by decide), gd_true, nm_eq, nI_clamp (show R 0 0 - 1 < 2 ^ 31 by omega), show (0 : Int32).toNatClampNeg = 0 from rfl, hha 0 (by omega), hha (R 0 0 - 1) (by omega), show (3 : Int32) = nI 3 from rfl, pk_mul, pk_mul]
  rfl
/-- the tables of both, by k = 6 times the one's pulls and the other one's -/
def tA (R : Nat → Nat → Nat) (L f k : Nat) : Int32 := pO R L f (k / 6) (k % 6)
def tB (R : Nat → Nat → Nat) (L f k : Nat) : Int32 := pT R L f (k / 6) (k % 6)
theorem m_pulls {R : Nat → Nat → Nat} (hR : rvOK R) (h2 : 2 ≤ R 0 0) {L U f sd : Nat} {V : Nat → Nat} (hL : L < 2 ^ R 0 1) (hf : f < 2 ^ 16) {kind wide bank at_ pulls : Nat → Int32} (T : tR R kind wide bank at_ pulls) {v : Nat → Int32} (hv : vR (R 0 1) v L U f sd V) (wi wa de sp : Nat → Int32) (be : Int32) (o t : Nat → Int32) :
    ∃ wi' wa' de' sp' be' o' t', f_X12_pulls (nI (R 0 0)) (nI (R 0 1)) kind wide bank at_ pulls v wi wa de sp be o t = some (wi', wa', de', sp', be', o', t') ∧ ∀ k, k < 36 → o' k = tA R L f k ∧ t' k = tB R L f k := by
  have hn := hR.1.2.1
  have hk := hR.1.2.2.1
  unfold f_X12_pulls
  refine loopK8 (A_1 := Int32) (A_2 := (Nat → Int32)) (A_3 := (Nat → Int32)) (A_4 := (Nat → Int32)) (A_5 := (Nat → Int32)) (A_6 := Int32) (A_7 := (Nat → Int32)) (A_8 := (Nat → Int32)) (F := fun n s_1 s_2 s_3 s_4 s_5 s_6 s_7 s_8 => f_X12_pulls_L2 (fun x1 x2 x3 x4 x5 x6 x7 => some (x1, x2, x3, x4, x5, x6, x7)) (nI (R 0 0)) (nI (R 0 1)) kind wide bank at_ pulls v n s_1 s_2 s_3 s_4 s_5 s_6 s_7 s_8) (P := fun k s_1 s_2 s_3 s_4 s_5 s_6 s_7 s_8 => s_1 = nI k ∧ ∀ j, j < k → s_7 j = tA R L f j ∧ s_8 j = tB R L f j) (a := 0) (N := 36) (fuel := 2000) (i_1 := 0) (i_2 := wi) (i_3 := wa) (i_4 := de) (i_5 := sp) (i_6 := be) (i_7 := o) (i_8 := t) ?_ (Nat.zero_le _) ?_ (by omega) ⟨rfl, fun j h => absurd h (by omega)⟩
  · rintro m y1 y2 y3 y4 y5 y6 y7 y8 ⟨z1, z2⟩ e
    (try dsimp only at z1 z2 e)
    subst z1
    rw [e, f_X12_pulls_L2, if_pos (show (36 : Int32) ≤ nI 36 from by decide)]
    exact ⟨_, _, _, _, _, _, _, rfl, z2⟩
  · rintro m k y1 y2 y3 y4 y5 y6 y7 y8 - hkk ⟨z1, z2⟩
    (try dsimp only at z1 z2 ⊢)
    subst z1
    have ed : nI k / 6 = nI (k / 6) := pk_div (by omega) (by decide) (by decide)
    have er : nI k - nI k / 6 * 6 = nI (k % 6) := pk_rem (by omega) (by decide) (by decide)
    obtain ⟨c1, c2, c3, c4, c5, e, hwi, hwa, hde, hsp, hbe⟩ := m_runsP hR (pow_k hk hL) hf (a := k / 6) (b := k % 6) (by omega) (by omega) T.kind T.wide T.bank T.at_ T.pulls y2 y3 y4 y5 y6
    have hS : ∀ r, sl R (wE R L (pe (R 0 0) (k / 6) (k % 6))) f r < 2 ^ 20 := fun r => Nat.lt_of_le_of_lt (sl_le R _ f r) (by omega)
    have a0 := m_harmAt hn T.kind hsp (i := 0) (by omega) (hR.2.1 0 (by omega)).1 (hS 0)
    have a9 := m_harmAt hn T.kind hsp (i := R 0 0 - 1) (by omega) (hR.2.1 (R 0 0 - 1) (by omega)).1 (hS _)
    rw [f_X12_pulls_L2, if_neg (show ¬ (36 : Int32) ≤ nI k from nI_ge (b := 36) (by omega) (by decide)), vR_laced hk hv hL, bind_some', show inb 14 16 = true by decide, gd_true, show v (14 : Int32).toNatClampNeg = nI f from hv.2.2.1, er, ed, e, bind_some']
    (try dsimp only)
    rw [show f_X12_harmAt 0 kind c4 = _ from a0, bind_some', nm_eq, inb_nI hkk (by decide), gd_true, nm_eq, show nI (R 0 0) - 1 = nI (R 0 0 - 1) from nI_sub (b := 1) (by omega), a9, bind_some', nm_eq, gd_true, nm_eq, nI_clamp (show k < 2 ^ 31 by omega), nI_1, show (3 : Int32) = nI 3 from rfl, pk_mul, pk_mul]
    refine ⟨_, _, _, _, _, _, _, _, rfl, ⟨rfl, fun j hj => ?_⟩⟩
    (try dsimp only)
    by_cases ej : j = k
    · subst ej
      rw [upd_s, upd_s]; exact ⟨rfl, rfl⟩
    · rw [upd_n _ _ ej, upd_n _ _ ej]; exact z2 j (by omega)
/-- neither could have more alone -/
def reB (R : Nat → Nat → Nat) (L f k : Nat) : Bool := !exB (fun p => decide (tA R L f k < tA R L f (6 * p + k % 6)) || decide (tB R L f k < tB R L f (6 * (k / 6) + p))) 6
theorem i32_nle {a b : Int32} : ¬ a ≤ b ↔ b < a := by rw [i32_le, i32_lt]; omega
theorem m_isRest {R : Nat → Nat → Nat} {L f k : Nat} (hk : k < 36) {o t : Nat → Int32} (h : ∀ k, k < 36 → o k = tA R L f k ∧ t k = tB R L f k) : f_X12_isRest (nI k) o t = some (if reB R L f k = true then 1 else 0) := by
  have ed : nI k / 6 = nI (k / 6) := pk_div (by omega) (by decide) (by decide)
  have er : nI k - nI k / 6 * 6 = nI (k % 6) := pk_rem (by omega) (by decide) (by decide)
  unfold f_X12_isRest
  refine loopX (F := f_X12_isRest_L2 (some 1) (nI k) o t) (P := fun p x => x = nI p ∧ exB (fun p => decide (tA R L f k < tA R L f (6 * p + k % 6)) || decide (tB R L f k < tB R L f (6 * (k / 6) + p))) p = false) (Q := fun x => x = some (if reB R L f k = true then 1 else 0)) (a := 0) (N := 6) (Nat.zero_le _) ?_ ?_ (by omega) ⟨rfl, rfl⟩
  · rintro m _ ⟨rfl, h6⟩
    rw [f_X12_isRest_L2, if_pos (show (6 : Int32) ≤ nI 6 from by decide), reB, h6]; rfl
  · rintro m p _ - hp ⟨rfl, hb⟩
    rw [f_X12_isRest_L2, if_neg (show ¬ (6 : Int32) ≤ nI p from nI_ge (b := 6) (by omega) (by decide)), er, ed, ix6', ix6, nI_1]
    simp only [inb_nI (show 6 * p + k % 6 < 36 by omega) (by decide), inb_nI (show 6 * (k / 6) + p < 36 by omega) (by decide), inb_nI hk (by decide), gd_true, nI_clamp (show k < 2 ^ 31 by omega), nI_clamp (show 6 * p + k % 6 < 2 ^ 31 by omega), nI_clamp (show 6 * (k / 6) + p < 2 ^ 31 by omega), (h _ hk).1, (h _ hk).2, (h _ (show 6 * p + k % 6 < 36 by omega)).1, (h _ (show 6 * (k / 6) + p < 36 by omega)).2]
    by_cases h1 : tA R L f (6 * p + k % 6) ≤ tA R L f k
    · rw [if_pos h1]
      have h1' : ¬ tA R L f k < tA R L f (6 * p + k % 6) := fun q => i32_nle.mpr q h1
      by_cases h2 : tB R L f (6 * (k / 6) + p) ≤ tB R L f k
      · right
        rw [if_pos h2]
        have h2' : ¬ tB R L f k < tB R L f (6 * (k / 6) + p) := fun q => i32_nle.mpr q h2
        exact ⟨_, ⟨rfl, by simp [exB, hb, h1', h2']⟩, rfl⟩
      · left
        rw [if_neg h2]
        have := exB_le (p := fun p => decide (tA R L f k < tA R L f (6 * p + k % 6)) || decide (tB R L f k < tB R L f (6 * (k / 6) + p))) (j := p + 1) (n := 6) (by simp [exB, i32_nle.mp h2]) (by omega)
        rw [reB, this]; rfl
    · left
      rw [if_neg h1]
      have := exB_le (p := fun p => decide (tA R L f k < tA R L f (6 * p + k % 6)) || decide (tB R L f k < tB R L f (6 * (k / 6) + p))) (j := p + 1) (n := 6) (by simp [exB, i32_nle.mp h1]) (by omega)
      rw [reB, this]; rfl
theorem s_isRest {R : Nat → Nat → Nat} {L f a b : Nat} (ha : a < 6) (hb : b < 6) {o t : Nat → Int32} (h : ∀ k, k < 36 → o k = tA R L f k ∧ t k = tB R L f k) : f_X4_isRest (nI a) (nI b) o t = some (if reB R L f (6 * a + b) = true then 1 else 0) := by
  have d1 : (6 * a + b) / 6 = a := by omega
  have d2 : (6 * a + b) % 6 = b := by omega
  have hk : 6 * a + b < 36 := by omega
  unfold f_X4_isRest
  rw [nm_eq, ix6]
  refine loopX (F := f_X4_isRest_L10 (some 1) (nI a) (nI b) (nI (6 * a + b)) o t) (P := fun p x => x = nI p ∧ exB (fun p => decide (tA R L f (6 * a + b) < tA R L f (6 * p + (6 * a + b) % 6)) || decide (tB R L f (6 * a + b) < tB R L f (6 * ((6 * a + b) / 6) + p))) p = false) (Q := fun x => x = some (if reB R L f (6 * a + b) = true then 1 else 0)) (a := 0) (N := 6) (Nat.zero_le _) ?_ ?_ (by omega) ⟨rfl, rfl⟩
  · rintro m _ ⟨rfl, h6⟩
    rw [f_X4_isRest_L10, if_pos (show (6 : Int32) ≤ nI 6 from by decide), reB, h6]; rfl
  · rintro m p _ - hp ⟨rfl, hx⟩
    rw [f_X4_isRest_L10, if_neg (show ¬ (6 : Int32) ≤ nI p from nI_ge (b := 6) (by omega) (by decide)), ix6, ix6, nI_1]
    simp only [inb_nI (show 6 * p + b < 36 by omega) (by decide), inb_nI (show 6 * a + p < 36 by omega) (by decide), inb_nI hk (by decide), gd_true, nI_clamp (show 6 * a + b < 2 ^ 31 by omega), nI_clamp (show 6 * p + b < 2 ^ 31 by omega), nI_clamp (show 6 * a + p < 2 ^ 31 by omega), (h _ hk).1, (h _ hk).2, (h _ (show 6 * p + b < 36 by omega)).1, (h _ (show 6 * a + p < 36 by omega)).2]
    by_cases h1 : tA R L f (6 * a + b) < tA R L f (6 * p + b)
    · left
      rw [if_pos h1]
      have := exB_le (p := fun p => decide (tA R L f (6 * a + b) < tA R L f (6 * p + (6 * a + b) % 6)) || decide (tB R L f (6 * a + b) < tB R L f (6 * ((6 * a + b) / 6) + p))) (j := p + 1) (n := 6) (by simp [exB, d2, h1]) (by omega)
      rw [reB, this]; rfl
    · rw [if_neg h1]
      by_cases h2 : tB R L f (6 * a + p) ≤ tB R L f (6 * a + b)
      · right
        rw [if_pos h2]
        have h2' : ¬ tB R L f (6 * a + b) < tB R L f (6 * a + p) := fun q => i32_nle.mpr q h2
        refine ⟨_, ⟨rfl, ?_⟩, rfl⟩
        rw [exB, hx, d1, d2]
        simp [h1, h2']
      · left
        rw [if_neg h2]
        have := exB_le (p := fun p => decide (tA R L f (6 * a + b) < tA R L f (6 * p + (6 * a + b) % 6)) || decide (tB R L f (6 * a + b) < tB R L f (6 * ((6 * a + b) / 6) + p))) (j := p + 1) (n := 6) (by simp [exB, d1, i32_nle.mp h2]) (by omega)
        rw [reB, this]; rfl
/-- how many rests, the first -/
def rc (R : Nat → Nat → Nat) (L f k : Nat) : Nat := sm (fun j => if reB R L f j = true then 1 else 0) k
def rf (R : Nat → Nat → Nat) (L f : Nat) : Nat → Option Nat
  | 0 => none
  | k + 1 => match rf R L f k with
    | none => if reB R L f k = true then some k else none
    | some q => some q
theorem rc_le (R : Nat → Nat → Nat) (L f k : Nat) : rc R L f k ≤ k := by
  have := sm_le (g := fun j => if reB R L f j = true then 1 else 0) (b := 1) (n := k) (fun i _ => by (try dsimp only); split <;> omega)
  unfold rc; omega
theorem rc_rf (R : Nat → Nat → Nat) (L f : Nat) : ∀ k, rc R L f k = 0 ↔ rf R L f k = none
  | 0 => by simp [rc, sm, rf]
  | k + 1 => by
    have ih := rc_rf R L f k
    have e : rc R L f (k + 1) = rc R L f k + if reB R L f k = true then 1 else 0 := rfl
    rw [e, rf]
    cases h : rf R L f k with
    | none =>
      rw [ih.mpr h]
      by_cases hb : reB R L f k = true <;> simp [hb]
    | some q =>
      have : rc R L f k ≠ 0 := fun h0 => by rw [ih.mp h0] at h; cases h
      simp; omega
theorem rf_up (R : Nat → Nat → Nat) (L f : Nat) {k q : Nat} (h : rf R L f k = some q) : ∀ d, rf R L f (k + d) = some q
  | 0 => h
  | d + 1 => by
    show rf R L f ((k + d) + 1) = _
    rw [rf, rf_up R L f h d]
def enR : Option Nat → Int32
  | none => -2
  | some k => nI (10 * (k / 6) + k % 6)
theorem s_searchP {R : Nat → Nat → Nat} (hR : rvOK R) (h2 : 2 ≤ R 0 0) {L f : Nat} (hL : L < 2 ^ R 0 1) (hf : f < 2 ^ 16) {kind wide bank at_ pulls : Nat → Int32} (T : tR R kind wide bank at_ pulls) (w co de sp ha : Nat → Int32) (be al si : Int32) (o t : Nat → Int32) (o0 t0 c0 f0 : Int32) :
    ∃ w' co' de' sp' ha' be' al' si' o' t' o1 t1, f_X4_search w co de sp ha be al si o t o0 t0 c0 f0 (nI (R 0 0)) (nI (R 0 1)) kind wide bank at_ pulls (nI L) (nI f) = some (w', co', de', sp', ha', be', al', si', o', t', o1, t1, nI (rc R L f 36), enR (rf R L f 36)) := by
  unfold f_X4_search
  refine loopK13 (A_1 := Int32) (A_2 := (Nat → Int32)) (A_3 := (Nat → Int32)) (A_4 := (Nat → Int32)) (A_5 := (Nat → Int32)) (A_6 := (Nat → Int32)) (A_7 := Int32) (A_8 := Int32) (A_9 := Int32) (A_10 := (Nat → Int32)) (A_11 := (Nat → Int32)) (A_12 := Int32) (A_13 := Int32) (F := fun n s_1 s_2 s_3 s_4 s_5 s_6 s_7 s_8 s_9 s_10 s_11 s_12 s_13 => f_X4_search_L2 (fun x1 x2 x3 x4 x5 x6 x7 x8 x9 x10 x11 x12 => f_X4_search_L84 (fun c f => some (x1, x2, x3, x4, x5, x6, x7, x8, x9, x10, x11, x12, c, f)) x9 x10 2000 0 0 (-2)) (nI (R 0 0)) (nI (R 0 1)) kind wide bank at_ pulls (nI L) (nI f) n s_1 s_2 s_3 s_4 s_5 s_6 s_7 s_8 s_9 s_10 s_11 s_12 s_13) (P := fun a s_1 s_2 s_3 s_4 s_5 s_6 s_7 s_8 s_9 s_10 s_11 s_12 s_13 => s_1 = nI a ∧ ∀ k, k < 6 * a → s_10 k = tA R L f k ∧ s_11 k = tB R L f k) (a := 0) (N := 6) (fuel := 2000) (i_1 := 0) (i_2 := w) (i_3 := co) (i_4 := de) (i_5 := sp) (i_6 := ha) (i_7 := be) (i_8 := al) (i_9 := si) (i_10 := o) (i_11 := t) (i_12 := o0) (i_13 := t0) ?_ (Nat.zero_le _) ?_ (by omega) ⟨rfl, fun k h => absurd h (by omega)⟩
  · rintro m y1 y2 y3 y4 y5 y6 y7 y8 y9 y10 y11 y12 y13 ⟨z1, z2⟩ e
    (try dsimp only at z1 z2 e)
    subst z1
    have hT : ∀ k, k < 36 → y10 k = tA R L f k ∧ y11 k = tB R L f k := fun k hk => z2 k (by omega)
    rw [e, f_X4_search_L2, if_pos (show (6 : Int32) ≤ nI 6 from by decide)]
    refine loopK3 (A_1 := Int32) (A_2 := Int32) (A_3 := Int32) (F := fun n s_1 s_2 s_3 => f_X4_search_L84 (fun c f => some (y2, y3, y4, y5, y6, y7, y8, y9, y10, y11, y12, y13, c, f)) y10 y11 n s_1 s_2 s_3) (P := fun a s_1 s_2 s_3 => s_1 = nI a ∧ s_2 = nI (rc R L f (6 * a)) ∧ s_3 = enR (rf R L f (6 * a))) (a := 0) (N := 6) (fuel := 2000) (i_1 := 0) (i_2 := 0) (i_3 := -2) ?_ (Nat.zero_le _) ?_ (by omega) ⟨rfl, rfl, rfl⟩
    · rintro m2 u1 u2 u3 ⟨v1, v2, v3⟩ e3
      (try dsimp only at v1 v2 v3 e3)
      subst v1; subst v2; subst v3
      rw [e3, f_X4_search_L84, if_pos (show (6 : Int32) ≤ nI 6 from by decide)]
      exact ⟨_, _, _, _, _, _, _, _, _, _, _, _, rfl⟩
    · rintro m a u1 u2 u3 - ha6 ⟨v1, v2, v3⟩
      (try dsimp only at v1 v2 v3 ⊢)
      subst v1; subst v2; subst v3
      rw [f_X4_search_L84, if_neg (show ¬ (6 : Int32) ≤ nI a from nI_ge (b := 6) (by omega) (by decide))]
      refine loopK3 (A_1 := Int32) (A_2 := Int32) (A_3 := Int32) (F := fun n s_1 s_2 s_3 => f_X4_search_L93 (fun c1 f1 => f_X4_search_L84 (fun c f => some (y2, y3, y4, y5, y6, y7, y8, y9, y10, y11, y12, y13, c, f)) y10 y11 m (nI a + 1) c1 f1) (nI a) y10 y11 n s_1 s_2 s_3) (P := fun b s_1 s_2 s_3 => s_1 = nI b ∧ s_2 = nI (rc R L f (6 * a + b)) ∧ s_3 = enR (rf R L f (6 * a + b))) (a := 0) (N := 6) (fuel := 2000) (i_1 := 0) (i_2 := nI (rc R L f (6 * a))) (i_3 := enR (rf R L f (6 * a))) ?_ (Nat.zero_le _) ?_ (by omega) ⟨rfl, rfl, rfl⟩
      · rintro m4 q1 q2 q3 ⟨r1, r2, r3⟩ e4
        (try dsimp only at r1 r2 r3 e4)
        subst r1; subst r2; subst r3
        rw [e4, f_X4_search_L93, if_pos (show (6 : Int32) ≤ nI 6 from by decide), nI_1]
        exact ⟨_, _, _, rfl, ⟨rfl, rfl, rfl⟩⟩
      · rintro m5 b q1 q2 q3 - hb6 ⟨r1, r2, r3⟩
        (try dsimp only at r1 r2 r3 ⊢)
        subst r1; subst r2; subst r3
        have hrc := rc_le R L f (6 * a + b)
        have hi := rc_rf R L f (6 * a + b)
        have e1 : rc R L f (6 * a + (b + 1)) = rc R L f (6 * a + b) + if reB R L f (6 * a + b) = true then 1 else 0 := rfl
        have e2 : rf R L f (6 * a + (b + 1)) = match rf R L f (6 * a + b) with
          | none => if reB R L f (6 * a + b) = true then some (6 * a + b) else none
          | some q => some q := rfl
        rw [f_X4_search_L93, if_neg (show ¬ (6 : Int32) ≤ nI b from nI_ge (b := 6) (by omega) (by decide)), s_isRest ha6 hb6 hT, bind_some', nI_1 b]
        by_cases hr : reB R L f (6 * a + b) = true
        · rw [if_pos hr, if_neg one_ne]
          rw [if_pos hr] at e1
          by_cases h0 : rc R L f (6 * a + b) = 0
          · have hn0 := hi.mp h0
            rw [if_pos ((nI_z (by omega)).mpr h0), nm_eq, nm_eq, nI_1, show (10 : Int32) = nI 10 from rfl, pk_mul, nI_add]
            refine ⟨_, _, _, rfl, ⟨rfl, ?_, ?_⟩⟩
            · (try dsimp only); rw [e1]; first | done | exact nI_1 _
            · (try dsimp only); rw [e2, hn0]
              simp only [hr, if_true, enR]
              refine congrArg nI ?_; omega
          · rw [if_neg (fun h => h0 ((nI_z (by omega)).mp h)), nm_eq, nI_1]
            refine ⟨_, _, _, rfl, ⟨rfl, ?_, ?_⟩⟩
            · (try dsimp only); rw [e1]; first | done | exact nI_1 _
            · (try dsimp only); rw [e2]
              cases hq : rf R L f (6 * a + b) with
              | none => exact absurd (hi.mpr hq) h0
              | some q => rfl
        · rw [if_neg hr, if_pos rfl]
          rw [if_neg hr] at e1
          refine ⟨_, _, _, rfl, ⟨rfl, ?_, ?_⟩⟩
          · (try dsimp only); rw [e1]; rfl
          · (try dsimp only); rw [e2]
            cases hq : rf R L f (6 * a + b) with
            | none => simp only [hr, if_false]; rfl
            | some q => rfl
  · rintro m a y1 y2 y3 y4 y5 y6 y7 y8 y9 y10 y11 y12 y13 - ha6 ⟨z1, z2⟩
    (try dsimp only at z1 z2 ⊢)
    subst z1
    rw [f_X4_search_L2, if_neg (show ¬ (6 : Int32) ≤ nI a from nI_ge (b := 6) (by omega) (by decide))]
    refine loopK13 (A_1 := Int32) (A_2 := (Nat → Int32)) (A_3 := (Nat → Int32)) (A_4 := (Nat → Int32)) (A_5 := (Nat → Int32)) (A_6 := (Nat → Int32)) (A_7 := Int32) (A_8 := Int32) (A_9 := Int32) (A_10 := (Nat → Int32)) (A_11 := (Nat → Int32)) (A_12 := Int32) (A_13 := Int32) (F := fun n s_1 s_2 s_3 s_4 s_5 s_6 s_7 s_8 s_9 s_10 s_11 s_12 s_13 => f_X4_search_L11 (fun x1 x2 x3 x4 x5 x6 x7 x8 x9 x10 x11 x12 => f_X4_search_L2 (fun x1 x2 x3 x4 x5 x6 x7 x8 x9 x10 x11 x12 => f_X4_search_L84 (fun c f => some (x1, x2, x3, x4, x5, x6, x7, x8, x9, x10, x11, x12, c, f)) x9 x10 2000 0 0 (-2)) (nI (R 0 0)) (nI (R 0 1)) kind wide bank at_ pulls (nI L) (nI f) m (nI a + 1) x1 x2 x3 x4 x5 x6 x7 x8 x9 x10 x11 x12) (nI a) (nI (R 0 0)) (nI (R 0 1)) kind wide bank at_ pulls (nI L) (nI f) n s_1 s_2 s_3 s_4 s_5 s_6 s_7 s_8 s_9 s_10 s_11 s_12 s_13) (P := fun b s_1 s_2 s_3 s_4 s_5 s_6 s_7 s_8 s_9 s_10 s_11 s_12 s_13 => s_1 = nI b ∧ ∀ k, k < 6 * a + b → s_10 k = tA R L f k ∧ s_11 k = tB R L f k) (a := 0) (N := 6) (fuel := 2000) (i_1 := 0) (i_2 := y2) (i_3 := y3) (i_4 := y4) (i_5 := y5) (i_6 := y6) (i_7 := y7) (i_8 := y8) (i_9 := y9) (i_10 := y10) (i_11 := y11) (i_12 := y12) (i_13 := y13) ?_ (Nat.zero_le _) ?_ (by omega) ⟨rfl, fun k h => z2 k (by omega)⟩
    · rintro m4 q1 q2 q3 q4 q5 q6 q7 q8 q9 q10 q11 q12 q13 ⟨r1, r2⟩ e4
      (try dsimp only at r1 r2 e4)
      subst r1
      rw [e4, f_X4_search_L11, if_pos (show (6 : Int32) ≤ nI 6 from by decide), nI_1]
      exact ⟨_, _, _, _, _, _, _, _, _, _, _, _, _, rfl, ⟨rfl, fun k hk => r2 k (by omega)⟩⟩
    · rintro m5 b q1 q2 q3 q4 q5 q6 q7 q8 q9 q10 q11 q12 q13 - hb6 ⟨r1, r2⟩
      (try dsimp only at r1 r2 ⊢)
      subst r1
      obtain ⟨c1, c2, c3, c4, c5, c6, c7, c8, e⟩ := s_pull hR h2 hL hf (a := a) (b := b) (by omega) (by omega) T q2 q3 q4 q5 q6 q7 q8 q9 q12 q13
      rw [f_X4_search_L11, if_neg (show ¬ (6 : Int32) ≤ nI b from nI_ge (b := 6) (by omega) (by decide)), e, bind_some', ix6, nI_1 b]
      (try dsimp only)
      rw [inb_nI (show 6 * a + b < 36 by omega) (by decide), gd_true, nm_eq, gd_true, nm_eq, nI_clamp (show 6 * a + b < 2 ^ 31 by omega)]
      refine ⟨_, _, _, _, _, _, _, _, _, _, _, _, _, rfl, ⟨rfl, fun k hk => ?_⟩⟩
      (try dsimp only)
      by_cases ek : k = 6 * a + b
      · subst ek
        rw [upd_s, upd_s, tA, tB, show (6 * a + b) / 6 = a by omega, show (6 * a + b) % 6 = b by omega]
        exact ⟨rfl, rfl⟩
      · rw [upd_n _ _ ek, upd_n _ _ ek]; exact r2 k (by omega)
theorem two_le {n : Nat} (hn : n < 2 ^ 31) : (2 : Int32) ≤ nI n ↔ 2 ≤ n := nI_leI (a := 2) (by decide) hn
theorem areTwo_nI {n : Nat} (hn : n < 2 ^ 31) : f_X12_areTwo (nI n) = some (if 2 ≤ n then 1 else 0) := by
  unfold f_X12_areTwo
  by_cases h : 2 ≤ n
  · rw [if_neg (show ¬ nI n ≤ 1 from nI_ge (a := 1) (by omega) hn), if_pos h]
  · rw [if_pos (show nI n ≤ 1 from nI_le (b := 1) (by omega) (by decide)), if_neg h]
theorem j_parish {R : Nat → Nat → Nat} (hR : rvOK R) {L U f sd : Nat} {V : Nat → Nat} (hL : L < 2 ^ R 0 1) (hf : f < 2 ^ 16) {kind wide bank at_ pulls kind2 wide2 bank2 at2 pulls2 v : Nat → Int32} (T : tR R kind wide bank at_ pulls) (T2 : tR R kind2 wide2 bank2 at2 pulls2) (hv : vR (R 0 1) v L U f sd V) (p1 p2 p3 : Int32) (w co de sp ha : Nat → Int32) (be al si o0 t0 tr : Int32) (th tr2 wh : Int32) (wi wa de2 sp2 : Nat → Int32) (be2 : Int32) (o2 t2 : Nat → Int32) :
    ∃ o q, f_X10_parish p1 p2 p3 (nI L) (nI f) w co de sp ha be al si o0 t0 (nI (R 0 0)) (nI (R 0 1)) kind wide bank at_ pulls tr = some o ∧ f_X12_parish p1 p2 p3 th tr2 wh (nI (R 0 0)) (nI (R 0 1)) kind2 wide2 bank2 at2 pulls2 v wi wa de2 sp2 be2 o2 t2 = some q ∧ q.1 = o.1 ∧ q.2.1 = 0 ∧ q.2.2.1 = o.2.2.2.2.2.2.2.2.2.2.2 ∧ q.2.2.2.1 = -1 ∧ ¬ o.2.2.2.2.2.2.2.2.2.2.2 = 4 := by
  have hn := hR.1.2.1
  unfold f_X10_parish f_X12_parish
  rw [areTwo_nI (by omega), bind_some']
  by_cases h2 : 2 ≤ R 0 0
  · rw [if_pos ((two_le (by omega)).mpr h2), if_pos h2, if_neg one_ne]
    rcases isPull_or p1 with ⟨a1, a2⟩ | ⟨a, ha5, rfl, a1, a2⟩
    · rw [a1, a2]; exact ⟨_, _, rfl, rfl, rfl, rfl, rfl, rfl, by show ¬ (2 : Int32) = 4; decide⟩
    · rw [a1, a2, bind_some', bind_some', if_neg one_ne, if_neg one_ne]
      rcases isPull_or p2 with ⟨b1, b2⟩ | ⟨b, hb5, rfl, b1, b2⟩
      · rw [b1, b2]; exact ⟨_, _, rfl, rfl, rfl, rfl, rfl, rfl, by show ¬ (2 : Int32) = 4; decide⟩
      · obtain ⟨k1, k2, k3, k4, k5, k6, k7, k8, e⟩ := s_pull hR h2 hL hf ha5 hb5 T w co de sp ha be al si o0 t0
        obtain ⟨m1, m2, m3, m4, m5, m6, m7, em, hT⟩ := m_pulls hR h2 hL hf T2 hv wi wa de2 sp2 be2 o2 t2
        have hab := hT (6 * a + b) (by omega)
        have eA : tA R L f (6 * a + b) = pO R L f a b := by rw [tA, show (6 * a + b) / 6 = a by omega, show (6 * a + b) % 6 = b by omega]
        have eB : tB R L f (6 * a + b) = pT R L f a b := by rw [tB, show (6 * a + b) / 6 = a by omega, show (6 * a + b) % 6 = b by omega]
        rw [b1, b2, bind_some', bind_some', if_neg one_ne, if_neg one_ne, e, bind_some', em, bind_some', ix6', inb_nI (show 6 * a + b < 36 by omega) (by decide), gd_true, gd_true, nI_clamp (show 6 * a + b < 2 ^ 31 by omega)]
        (try dsimp only)
        rw [hab.1, hab.2, eA, eB]
        by_cases h3 : p3 = 0
        · rw [if_pos h3, if_pos h3]; exact ⟨_, _, rfl, rfl, rfl, rfl, rfl, rfl, by show ¬ (0 : Int32) = 4; decide⟩
        · rw [if_neg h3, if_neg h3]; exact ⟨_, _, rfl, rfl, rfl, rfl, rfl, rfl, by show ¬ (0 : Int32) = 4; decide⟩
  · rw [if_neg (fun h => h2 ((two_le (by omega)).mp h)), if_neg h2]
    exact ⟨_, _, rfl, rfl, rfl, rfl, rfl, rfl, by show ¬ (1 : Int32) = 4; decide⟩
theorem m_restsL {R : Nat → Nat → Nat} {L f : Nat} {o t : Nat → Int32} (h : ∀ k, k < 36 → o k = tA R L f k ∧ t k = tB R L f k) {K : Int32 → Option (Int32 × Int32 × Int32 × Int32 × (Nat → Int32) × (Nat → Int32) × (Nat → Int32) × (Nat → Int32) × Int32 × (Nat → Int32) × (Nat → Int32))} : f_X12_rests_L26 K o t 2000 0 0 = K (nI (rc R L f 36)) := by
  refine gathers (F := f_X12_rests_L26 K o t) (k := K) (N := 36) ?_ ?_ (by omega)
  · intro m acc; rw [f_X12_rests_L26, if_pos (show (36 : Int32) ≤ nI 36 from by decide)]
  · intro m k hk
    rw [f_X12_rests_L26, if_neg (show ¬ (36 : Int32) ≤ nI k from nI_ge (b := 36) (by omega) (by decide)), m_isRest hk h, bind_some']
    simp only [sm, nm_eq, nI_1, Int32.add_zero]
    by_cases hr : reB R L f k = true
    · rw [if_pos hr, if_neg one_ne, if_pos hr]
    · rw [if_neg hr, if_pos rfl, if_neg hr]; rfl
theorem j_rests {R : Nat → Nat → Nat} (hR : rvOK R) {L U f sd : Nat} {V : Nat → Nat} (hL : L < 2 ^ R 0 1) (hf : f < 2 ^ 16) {kind wide bank at_ pulls kind2 wide2 bank2 at2 pulls2 v : Nat → Int32} (T : tR R kind wide bank at_ pulls) (T2 : tR R kind2 wide2 bank2 at2 pulls2) (hv : vR (R 0 1) v L U f sd V) (w co de sp ha : Nat → Int32) (be al si : Int32) (o1 t1 : Nat → Int32) (o0 t0 c0 f0 tr : Int32) (th tr2 wh : Int32) (wi wa de2 sp2 : Nat → Int32) (be2 : Int32) (o2 t2 : Nat → Int32) :
    ∃ o q, f_X10_rests (nI L) (nI f) w co de sp ha be al si o1 t1 o0 t0 c0 f0 (nI (R 0 0)) (nI (R 0 1)) kind wide bank at_ pulls tr = some o ∧ f_X12_rests th tr2 wh (nI (R 0 0)) (nI (R 0 1)) kind2 wide2 bank2 at2 pulls2 v wi wa de2 sp2 be2 o2 t2 = some q ∧ q.1 = o.1 ∧ q.2.1 = 0 ∧ q.2.2.1 = o.2.2.2.2.2.2.2.2.2.2.2.2.2.2.2 ∧ q.2.2.2.1 = -1 ∧ ¬ o.2.2.2.2.2.2.2.2.2.2.2.2.2.2.2 = 4 := by
  have hn := hR.1.2.1
  unfold f_X10_rests f_X12_rests
  rw [areTwo_nI (by omega), bind_some']
  by_cases h2 : 2 ≤ R 0 0
  · rw [if_pos ((two_le (by omega)).mpr h2), if_pos h2, if_neg one_ne]
    obtain ⟨k1, k2, k3, k4, k5, k6, k7, k8, k9, k10, k11, k12, e⟩ := s_searchP hR h2 hL hf T w co de sp ha be al si o1 t1 o0 t0 c0 f0
    obtain ⟨m1, m2, m3, m4, m5, m6, m7, em, hT⟩ := m_pulls hR h2 hL hf T2 hv wi wa de2 sp2 be2 o2 t2
    rw [e, bind_some', em, bind_some']
    (try dsimp only)
    rw [m_restsL hT]
    exact ⟨_, _, rfl, rfl, rfl, rfl, rfl, rfl, by show ¬ (0 : Int32) = 4; decide⟩
  · rw [if_neg (fun h => h2 ((two_le (by omega)).mp h)), if_neg h2]
    exact ⟨_, _, rfl, rfl, rfl, rfl, rfl, rfl, by show ¬ (1 : Int32) = 4; decide⟩
theorem j_rest {R : Nat → Nat → Nat} (hR : rvOK R) {L U f sd : Nat} {V : Nat → Nat} (hL : L < 2 ^ R 0 1) (hf : f < 2 ^ 16) {kind wide bank at_ pulls kind2 wide2 bank2 at2 pulls2 v : Nat → Int32} (T : tR R kind wide bank at_ pulls) (T2 : tR R kind2 wide2 bank2 at2 pulls2) (hv : vR (R 0 1) v L U f sd V) (w co de sp ha : Nat → Int32) (be al si : Int32) (o1 t1 : Nat → Int32) (o0 t0 c0 f0 tr : Int32) (th tr2 wh : Int32) (wi wa de2 sp2 : Nat → Int32) (be2 : Int32) (o2 t2 : Nat → Int32) :
    ∃ o q, f_X10_rest (nI L) (nI f) w co de sp ha be al si o1 t1 o0 t0 c0 f0 (nI (R 0 0)) (nI (R 0 1)) kind wide bank at_ pulls tr = some o ∧ f_X12_rest th tr2 wh (nI (R 0 0)) (nI (R 0 1)) kind2 wide2 bank2 at2 pulls2 v wi wa de2 sp2 be2 o2 t2 = some q ∧ q.1 = o.1 ∧ q.2.1 = 0 ∧ q.2.2.1 = o.2.2.2.2.2.2.2.2.2.2.2.2.2.2.2 ∧ q.2.2.2.1 = -1 ∧ ¬ o.2.2.2.2.2.2.2.2.2.2.2.2.2.2.2 = 4 := by
  have hn := hR.1.2.1
  unfold f_X10_rest f_X12_rest
  rw [areTwo_nI (by omega), bind_some']
  by_cases h2 : 2 ≤ R 0 0
  · rw [if_pos ((two_le (by omega)).mpr h2), if_pos h2, if_neg one_ne]
    obtain ⟨k1, k2, k3, k4, k5, k6, k7, k8, k9, k10, k11, k12, e⟩ := s_searchP hR h2 hL hf T w co de sp ha be al si o1 t1 o0 t0 c0 f0
    obtain ⟨m1, m2, m3, m4, m5, m6, m7, em, hT⟩ := m_pulls hR h2 hL hf T2 hv wi wa de2 sp2 be2 o2 t2
    rw [e, bind_some', em, bind_some']
    (try dsimp only)
    refine loopX3 (A_1 := Int32) (A_2 := Int32) (A_3 := Int32) (F := fun n s_1 s_2 s_3 => f_X12_rest_L24 (fun a b => (f_X12_good (-2) a b).bind fun o8 => some (o8.1, 0, o8.2.1, o8.2.2, m1, m2, m3, m4, m5, m6, m7)) 0 m1 m2 m3 m4 m5 m6 m7 n s_1 s_2 s_3) (P := fun k s_1 s_2 s_3 => s_1 = nI k ∧ rf R L f k = none) (Q := fun z => ∃ o q, (f_X10_answered (enR (rf R L f 36)) tr).bind (fun o3 => some (o3.1, k1, k2, k3, k4, k5, k6, k7, k8, k9, k10, k11, k12, nI (rc R L f 36), enR (rf R L f 36), o3.2)) = some o ∧ z = some q ∧ q.1 = o.1 ∧ q.2.1 = 0 ∧ q.2.2.1 = o.2.2.2.2.2.2.2.2.2.2.2.2.2.2.2 ∧ q.2.2.2.1 = -1 ∧ ¬ o.2.2.2.2.2.2.2.2.2.2.2.2.2.2.2 = 4) (a := 0) (N := 36) (fuel := 2000) (i_1 := 0) (i_2 := tr2) (i_3 := wh) (Nat.zero_le _) ?_ ?_ (by omega) ⟨rfl, rfl⟩
    · rintro m y1 y2 y3 ⟨z1, z2⟩
      (try dsimp only at z1 z2 ⊢)
      subst z1
      rw [f_X12_rest_L24, if_pos (show (36 : Int32) ≤ nI 36 from by decide), z2]
      exact ⟨_, _, rfl, rfl, rfl, rfl, rfl, rfl, by show ¬ (0 : Int32) = 4; decide⟩
    · rintro m k y1 y2 y3 - hk ⟨z1, z2⟩
      (try dsimp only at z1 z2 ⊢)
      subst z1
      have ed : nI k / 6 = nI (k / 6) := pk_div (by omega) (by decide) (by decide)
      have er : nI k - nI k / 6 * 6 = nI (k % 6) := pk_rem (by omega) (by decide) (by decide)
      rw [f_X12_rest_L24, if_neg (show ¬ (36 : Int32) ≤ nI k from nI_ge (b := 36) (by omega) (by decide)), m_isRest hk hT, bind_some', nI_1]
      by_cases hr : reB R L f k = true
      · left
        have h1 : rf R L f (k + 1) = some k := by rw [rf, z2]; simp [hr]
        have h36 := rf_up R L f h1 (36 - (k + 1))
        rw [show k + 1 + (36 - (k + 1)) = 36 by omega] at h36
        rw [if_pos hr, if_neg one_ne, er, ed, show (10 : Int32) = nI 10 from rfl, pk_mul, nI_add, h36]
        exact ⟨_, _, rfl, rfl, rfl, rfl, rfl, rfl, by show ¬ (0 : Int32) = 4; decide⟩
      · right
        rw [if_neg hr, if_pos rfl]
        refine ⟨_, _, _, rfl, ⟨rfl, ?_⟩⟩
        rw [rf, z2]; simp [hr]
  · rw [if_neg (fun h => h2 ((two_le (by omega)).mp h)), if_neg h2]
    exact ⟨_, _, rfl, rfl, rfl, rfl, rfl, rfl, by show ¬ (1 : Int32) = 4; decide⟩
