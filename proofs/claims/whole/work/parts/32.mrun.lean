/-! the reference: widthBy, runsPulled, runs -/
theorem sub3 (p q u v : Int32) : p - q - u - v = p - (q + (u + v)) := by
  apply Int32.toBitVec_inj.mp; simp only [Int32.toBitVec_sub, Int32.toBitVec_add]; bv_omega
theorem sub2 (p q u : Int32) : p - q - u = p - (q + u) := by
  apply Int32.toBitVec_inj.mp; simp only [Int32.toBitVec_sub, Int32.toBitVec_add]; bv_omega
theorem L_widthBy {k : Int32 → Option Int32} {R : Nat → Nat → Nat} (hR : rvOK R) {L : Nat} (hL : L < 2 ^ 31) {at_ pulls : Nat → Int32} (ha : rw_ (R 0 1) at_ (R 4)) (hp : rw_ (R 0 1) pulls (R 5)) {r : Nat} (hr : r < R 0 0) : ∀ (d i fuel : Nat) (x : Int32), i + d = R 0 1 → d < fuel → x = nI (R 2 r) - nI (pl R L r i) →
    f_X12_widthBy_L13 k (nI r) (nI L) (nI (R 0 1)) at_ pulls fuel x (nI i) = k (nI (R 2 r) - nI (pl R L r (R 0 1))) := by
  have hk := hR.1.2.2.1
  have hn := hR.1.2.1
  intro d
  induction d with
  | zero =>
    intro i fuel x hi hf hx
    obtain ⟨m, rfl⟩ := Nat.exists_eq_succ_of_ne_zero (show fuel ≠ 0 by omega)
    rw [f_X12_widthBy_L13, if_pos (nI_le (by omega) (by omega)), hx, show i = R 0 1 by omega]
  | succ d ih =>
    intro i fuel x hi hf hx
    obtain ⟨m, rfl⟩ := Nat.exists_eq_succ_of_ne_zero (show fuel ≠ 0 by omega)
    have h4 := (hR.2.2.1 i (by omega)).1
    rw [f_X12_widthBy_L13, if_neg (nI_ge (by omega) (by omega)), bit_nI hL (by omega), bind_some']
    by_cases hb : L.testBit i = true
    · rw [if_pos hb, if_neg (by decide)]
      simp only [inb_nI (show i < 7 by omega) (by decide), gd_true, nm_eq, nI_clamp (show i < 2 ^ 31 by omega), nI_1, ha i (by omega), hp i (by omega)]
      by_cases h : R 4 i = r
      · rw [if_pos (by rw [h])]
        refine ih (i + 1) m _ (by omega) (by omega) ?_
        rw [hx, pl, hb, Bool.true_and, if_pos (decide_eq_true h), ← nI_add]
        exact sub2 _ _ _
      · rw [if_neg (by rw [nI_eq (by omega) (by omega)]; exact h)]
        refine ih (i + 1) m _ (by omega) (by omega) ?_
        rw [hx, pl, hb, Bool.true_and, if_neg (by simp; exact h), Nat.add_zero]
    · rw [if_neg hb, if_pos rfl, nI_1]
      refine ih (i + 1) m _ (by omega) (by omega) ?_
      rw [hx, pl]
      simp [hb]
theorem m_widthBy {R : Nat → Nat → Nat} (hR : rvOK R) {L : Nat} (hL : L < 2 ^ 31) {wide at_ pulls : Nat → Int32} (hw : rw_ (R 0 0) wide (R 2)) (ha : rw_ (R 0 1) at_ (R 4)) (hp : rw_ (R 0 1) pulls (R 5)) {r : Nat} (hr : r < R 0 0) :
    f_X12_widthBy (nI r) (nI L) (nI (R 0 1)) wide at_ pulls = some (nI (R 2 r) - nI (pl R L r (R 0 1))) := by
  have hk := hR.1.2.2.1
  have hn := hR.1.2.1
  unfold f_X12_widthBy
  simp only [inb_nI (show r < 6 by omega) (by decide), gd_true, nm_eq, nI_clamp (show r < 2 ^ 31 by omega), hw r hr]
  exact L_widthBy hR hL ha hp hr (R 0 1) 0 2000 _ (by omega) (by omega) (by rw [pl]; simp [nI])
/-- what a first and a last one pull more -/
def pe (n a b r : Nat) : Nat := (if r = 0 then a else 0) + (if r = n - 1 then b else 0)
theorem pe_0 (n : Nat) : pe n 0 0 = fun _ => 0 := by funext r; simp [pe]
theorem wE_0 (R : Nat → Nat → Nat) (L n : Nat) : wE R L (pe n 0 0) = wN R L := by funext r; rw [pe_0]; rfl
def runI (R : Nat → Nat → Nat) (W : Nat → Nat) (f i : Nat) (wi wa de sp : Nat → Int32) (be : Int32) : Prop :=
  rw_ i wi W ∧ rw_ i wa (wt R W f) ∧ rw_ i de (dp R W f) ∧ rw_ i sp (sl R W f) ∧ be = nI (wt R W f i)
theorem runI_at {R : Nat → Nat → Nat} {W : Nat → Nat} {f i j : Nat} {wi wa de sp : Nat → Int32} {be : Int32} (e : i = j) (h : runI R W f i wi wa de sp be) : runI R W f j wi wa de sp be := by subst e; exact h
theorem le_max1 {a b : Nat} (ha : a < 2 ^ 30) (hb : b < 2 ^ 30) : (nI a - nI b ≤ 1 → nI (max 1 (a - b)) = 1) ∧ (¬ nI a - nI b ≤ 1 → nI a - nI b = nI (max 1 (a - b))) := by
  have h := sub_max1 ha hb
  have e : (1 : Int32) < nI a - nI b ↔ ¬ nI a - nI b ≤ 1 := by rw [i32_lt, i32_le]; omega
  refine ⟨fun h1 => ?_, fun h1 => ?_⟩
  · rw [← h, if_neg (fun z => (e.mp z) h1)]
  · rw [← h, if_pos (e.mpr h1)]
theorem m_B79 {K : Int32 → (Nat → Int32) → (Nat → Int32) → (Nat → Int32) → (Nat → Int32) → Int32 → Option ((Nat → Int32) × (Nat → Int32) × (Nat → Int32) × (Nat → Int32) × Int32)} {R : Nat → Nat → Nat} (hR : rvOK R) {W : Nat → Nat} (hW : ∀ r, r < R 0 0 → 1 ≤ W r ∧ W r ≤ 40) {f : Nat} (hf : f < 2 ^ 16) {kind bank : Nat → Int32} (hk : rw_ (R 0 0) kind (R 1)) (hb : rw_ (R 0 0) bank (R 3)) {i : Nat} (hi : i < R 0 0) {wi wa de sp : Nat → Int32} {be : Int32} (hI : runI R W f i wi wa de sp be) :
    ∃ wi' wa' de' sp' be', f_X12_runsPulled_B79 K kind bank (nI i) (nI i) (nI (W i)) wi wa de sp be = K (nI (i + 1)) wi' wa' de' sp' be' ∧ runI R W f (i + 1) wi' wa' de' sp' be' := by
  obtain ⟨h_1, h_2, h_3, h_4, rfl⟩ := hI
  have hn := hR.1.2.1
  obtain ⟨hkd, -, -, hb1, hb2, -⟩ := hR.2.1 i hi
  have hWi := hW i hi
  have hwt := wt_le R W f i
  have hdp := dp_le R W f i
  have hsl := sl_le R W f i
  have hs1 := sp1_le R W i (wt R W f i)
  have hs2 : sl R W f i ≤ wt R W f i := hs1
  have ei : inb (nI i) 6 = true := inb_nI (by omega) (by decide)
  have ec : (nI i).toNatClampNeg = i := nI_clamp (by omega)
  have e2 : nI (wt R W f i) / nI (W i) = nI (dp R W f i) := pk_div (by omega) (by omega) (by omega)
  have hB : ∀ y : Int32, y = nI (sl R W f i) → ∃ wi' wa' de' sp' be', f_X12_runsPulled_B166 K kind (nI i) (nI i) y (upd wi i (nI (W i))) (upd wa i (nI (wt R W f i))) (upd de i (nI (dp R W f i))) sp (nI (wt R W f i)) = K (nI (i + 1)) wi' wa' de' sp' be' ∧ runI R W f (i + 1) wi' wa' de' sp' be' := by
    rintro y rfl
    unfold f_X12_runsPulled_B166
    simp only [ei, ec, gd_true, nm_eq, upd_s, hk i hi, nI_1]
    by_cases h1 : R 1 i = 1
    · rw [if_pos (by rw [h1]; rfl)]
      refine ⟨_, _, _, _, _, rfl, rw_up h_1 rfl, rw_up h_2 rfl, rw_up h_3 rfl, rw_up h_4 rfl, ?_⟩
      rw [show (2 : Int32) = nI 2 from rfl, pk_div (by omega) (by decide) (by decide), nI_sub (by omega), nI_sub (by omega)]
      congr 1
      show wt R W f i - (sl R W f i - sl R W f i / 2) = wt R W f i - lo1 R W i (wt R W f i)
      unfold lo1
      rw [if_pos h1]; rfl
    · rw [if_neg (by rw [show (1 : Int32) = nI 1 from rfl, nI_eq (by omega) (by decide)]; exact h1)]
      refine ⟨_, _, _, _, _, rfl, rw_up h_1 rfl, rw_up h_2 rfl, rw_up h_3 rfl, rw_up h_4 rfl, ?_⟩
      rw [nI_sub (by omega)]
      congr 1
      show wt R W f i - sl R W f i = wt R W f i - lo1 R W i (wt R W f i)
      unfold lo1
      rw [if_neg h1]; rfl
  unfold f_X12_runsPulled_B79
  simp only [ei, ec, gd_true, nm_eq, upd_s, nz_nI (show 0 < W i by omega) (by omega), e2, hb i hi]
  by_cases h : dp R W f i ≤ R 3 i
  · rw [if_pos (nI_le h (by omega))]
    refine hB 0 ?_
    have : sl R W f i = 0 := by
      show (wt R W f i / W i - R 3 i) * W i = 0
      have h2 : wt R W f i / W i - R 3 i = 0 := by unfold dp at h; omega
      rw [h2, Nat.zero_mul]
    rw [this]; rfl
  · rw [if_neg (nI_ge (by omega) (by omega))]
    refine hB _ ?_
    rw [nI_sub (by omega), pk_mul]; rfl
theorem m_B58 {K : Int32 → (Nat → Int32) → (Nat → Int32) → (Nat → Int32) → (Nat → Int32) → Int32 → Option ((Nat → Int32) × (Nat → Int32) × (Nat → Int32) × (Nat → Int32) × Int32)} {R : Nat → Nat → Nat} (hR : rvOK R) {L f a b : Nat} (hf : f < 2 ^ 16) (ha5 : a ≤ 5) (hb5 : b ≤ 5) {kind bank : Nat → Int32} (hk : rw_ (R 0 0) kind (R 1)) (hb : rw_ (R 0 0) bank (R 3)) {i : Nat} (hi : i < R 0 0) {x y : Nat} (hxy : x + y = pe (R 0 0) a b i) {wi wa de sp : Nat → Int32} {be : Int32} (hI : runI R (wE R L (pe (R 0 0) a b)) f i wi wa de sp be) :
    ∃ wi' wa' de' sp' be', f_X12_runsPulled_B58 K kind bank (nI i) (nI (R 2 i) - nI (pl R L i (R 0 1)) - nI x) (nI y) wi wa de sp be = K (nI (i + 1)) wi' wa' de' sp' be' ∧ runI R (wE R L (pe (R 0 0) a b)) f (i + 1) wi' wa' de' sp' be' := by
  have h2 := (hR.2.1 i hi).2.2.1
  have h3 := pl_le hR L i (R 0 1) (Nat.le_refl _)
  have hk7 := hR.1.2.2.1
  have hpe : pe (R 0 0) a b i ≤ 10 := by
    unfold pe
    by_cases h0 : i = 0 <;> by_cases h9 : i = R 0 0 - 1 <;> simp only [h0, h9, if_true, if_false, if_pos, if_neg] <;> (try split) <;> (try split) <;> omega
  have eW : max 1 (R 2 i - (pl R L i (R 0 1) + pe (R 0 0) a b i)) = wE R L (pe (R 0 0) a b) i := by
    unfold wE; rw [Nat.sub_add_eq]
  have hm := le_max1 (a := R 2 i) (b := pl R L i (R 0 1) + pe (R 0 0) a b i) (by omega) (by omega)
  rw [eW] at hm
  unfold f_X12_runsPulled_B58
  rw [nm_eq, sub3, nI_add, hxy, nI_add]
  obtain ⟨c1, c2, c3, c4, c5, e, hI'⟩ := m_B79 (K := K) hR (fun r hr => wE_le hR L _ hr) hf hk hb hi hI
  by_cases hz : nI (R 2 i) - nI (pl R L i (R 0 1) + pe (R 0 0) a b i) ≤ 1
  · rw [if_pos hz]
    rw [hm.1 hz] at e
    exact ⟨_, _, _, _, _, e, hI'⟩
  · rw [if_neg hz, hm.2 hz]
    exact ⟨_, _, _, _, _, e, hI'⟩
theorem L_runs {k : (Nat → Int32) → (Nat → Int32) → (Nat → Int32) → (Nat → Int32) → Int32 → Option ((Nat → Int32) × (Nat → Int32) × (Nat → Int32) × (Nat → Int32) × Int32)} {R : Nat → Nat → Nat} (hR : rvOK R) {L : Nat} (hL : L < 2 ^ 31) {f a b : Nat} (hf : f < 2 ^ 16) (ha5 : a ≤ 5) (hb5 : b ≤ 5) {kind wide bank at_ pulls : Nat → Int32} (hk : rw_ (R 0 0) kind (R 1)) (hw : rw_ (R 0 0) wide (R 2)) (hb : rw_ (R 0 0) bank (R 3)) (ha : rw_ (R 0 1) at_ (R 4)) (hp : rw_ (R 0 1) pulls (R 5)) : ∀ (d i fuel : Nat) (wi wa de sp : Nat → Int32) (be : Int32), i + d = R 0 0 → d < fuel → runI R (wE R L (pe (R 0 0) a b)) f i wi wa de sp be →
    ∃ wi' wa' de' sp' be', f_X12_runsPulled_L8 k (nI L) (nI a) (nI b) (nI (R 0 0)) (nI (R 0 1)) kind wide bank at_ pulls fuel (nI i) wi wa de sp be = k wi' wa' de' sp' be' ∧ runI R (wE R L (pe (R 0 0) a b)) f (R 0 0) wi' wa' de' sp' be' := by
  have hn := hR.1.2.1
  have hn1 := hR.1.1
  intro d
  induction d with
  | zero =>
    intro i fuel wi wa de sp be hi hf' hI
    obtain ⟨m, rfl⟩ := Nat.exists_eq_succ_of_ne_zero (show fuel ≠ 0 by omega)
    rw [f_X12_runsPulled_L8, if_pos (nI_le (by omega) (by omega))]
    have ei : i = R 0 0 := by omega
    exact ⟨_, _, _, _, _, rfl, runI_at ei hI⟩
  | succ d ih =>
    intro i fuel wi wa de sp be hi hf' hI
    obtain ⟨m, rfl⟩ := Nat.exists_eq_succ_of_ne_zero (show fuel ≠ 0 by omega)
    have hir : i < R 0 0 := by omega
    have h2 := (hR.2.1 i hir).2.2.1
    have h3 := pl_le hR L i (R 0 1) (Nat.le_refl _)
    have hk7 := hR.1.2.2.1
    rw [f_X12_runsPulled_L8, if_neg (nI_ge (by omega) (by omega)), m_widthBy hR hL hw ha hp hir, bind_some']
    have key : ∀ (x y : Nat), x + y = pe (R 0 0) a b i → ∃ wi' wa' de' sp' be', f_X12_runsPulled_B58 (f_X12_runsPulled_L8 k (nI L) (nI a) (nI b) (nI (R 0 0)) (nI (R 0 1)) kind wide bank at_ pulls m) kind bank (nI i) (nI (R 2 i) - nI (pl R L i (R 0 1)) - nI x) (nI y) wi wa de sp be = k wi' wa' de' sp' be' ∧ runI R (wE R L (pe (R 0 0) a b)) f (R 0 0) wi' wa' de' sp' be' := by
      intro x y hxy
      obtain ⟨c1, c2, c3, c4, c5, e, hI'⟩ := m_B58 (K := f_X12_runsPulled_L8 k (nI L) (nI a) (nI b) (nI (R 0 0)) (nI (R 0 1)) kind wide bank at_ pulls m) hR hf ha5 hb5 hk hb hir hxy hI
      rw [e]
      exact ih (i + 1) m _ _ _ _ _ (by omega) (by omega) hI'
    have e1 : (nI (R 0 0) - 1 : Int32) = nI (R 0 0 - 1) := by rw [show (1 : Int32) = nI 1 from rfl, nI_sub (by omega)]
    by_cases h0 : i = 0
    · rw [if_pos (by rw [h0]; rfl)]
      unfold f_X12_runsPulled_B37
      rw [e1]
      by_cases h9 : i = R 0 0 - 1
      · rw [if_pos (by rw [← h9])]
        exact key a b (by unfold pe; rw [if_pos h0, if_pos h9])
      · rw [if_neg (by rw [nI_eq (by omega) (by omega)]; exact h9)]
        exact key a 0 (by unfold pe; rw [if_pos h0, if_neg h9])
    · rw [if_neg (by rw [show (0 : Int32) = nI 0 from rfl, nI_eq (by omega) (by omega)]; exact h0)]
      unfold f_X12_runsPulled_B37
      rw [e1]
      by_cases h9 : i = R 0 0 - 1
      · rw [if_pos (by rw [← h9])]
        exact key 0 b (by unfold pe; rw [if_neg h0, if_pos h9])
      · rw [if_neg (by rw [nI_eq (by omega) (by omega)]; exact h9)]
        exact key 0 0 (by unfold pe; rw [if_neg h0, if_neg h9])
/-- runsPulled -/
theorem m_runsP {R : Nat → Nat → Nat} (hR : rvOK R) {L : Nat} (hL : L < 2 ^ 31) {f a b : Nat} (hf : f < 2 ^ 16) (ha5 : a ≤ 5) (hb5 : b ≤ 5) {kind wide bank at_ pulls : Nat → Int32} (hk : rw_ (R 0 0) kind (R 1)) (hw : rw_ (R 0 0) wide (R 2)) (hb : rw_ (R 0 0) bank (R 3)) (ha : rw_ (R 0 1) at_ (R 4)) (hp : rw_ (R 0 1) pulls (R 5)) (wi wa de sp : Nat → Int32) (be : Int32) :
    ∃ wi' wa' de' sp' be', f_X12_runsPulled (nI L) (nI f) (nI a) (nI b) (nI (R 0 0)) (nI (R 0 1)) kind wide bank at_ pulls wi wa de sp be = some (wi', wa', de', sp', be') ∧ runI R (wE R L (pe (R 0 0) a b)) f (R 0 0) wi' wa' de' sp' be' := by
  have hn := hR.1.2.1
  unfold f_X12_runsPulled
  exact L_runs hR hL hf ha5 hb5 hk hw hb ha hp (R 0 0) 0 2000 wi wa de sp (nI f) (by omega) (by omega) ⟨fun _ h => absurd h (by omega), fun _ h => absurd h (by omega), fun _ h => absurd h (by omega), fun _ h => absurd h (by omega), rfl⟩
/-- runs -/
theorem m_runs {R : Nat → Nat → Nat} (hR : rvOK R) {L : Nat} (hL : L < 2 ^ 31) {f : Nat} (hf : f < 2 ^ 16) {kind wide bank at_ pulls : Nat → Int32} (hk : rw_ (R 0 0) kind (R 1)) (hw : rw_ (R 0 0) wide (R 2)) (hb : rw_ (R 0 0) bank (R 3)) (ha : rw_ (R 0 1) at_ (R 4)) (hp : rw_ (R 0 1) pulls (R 5)) (wi wa de sp : Nat → Int32) (be : Int32) :
    ∃ wi' wa' de' sp' be', f_X12_runs (nI L) (nI f) (nI (R 0 0)) (nI (R 0 1)) kind wide bank at_ pulls wi wa de sp be = some (wi', wa', de', sp', be') ∧ runI R (wN R L) f (R 0 0) wi' wa' de' sp' be' := by
  unfold f_X12_runs
  obtain ⟨c1, c2, c3, c4, c5, e, q⟩ := m_runsP hR hL hf (a := 0) (b := 0) (by omega) (by omega) hk hw hb ha hp wi wa de sp be
  rw [wE_0] at q
  rw [show f_X12_runsPulled (nI L) (nI f) 0 0 (nI (R 0 0)) (nI (R 0 1)) kind wide bank at_ pulls wi wa de sp be = some (c1, c2, c3, c4, c5) from e, bind_some']
  exact ⟨_, _, _, _, _, rfl, q⟩
