/-! lacing: the reference -/
theorem sm_congr {g g' : Nat → Nat} : ∀ {n : Nat}, (∀ i, i < n → g i = g' i) → sm g n = sm g' n
  | 0, _ => rfl
  | n + 1, h => by simp only [sm]; rw [sm_congr (fun i hi => h i (by omega)), h n (by omega)]
theorem sm_one {g g' : Nat → Nat} {q x : Nat} : ∀ {n : Nat}, q < n → (∀ i, i < n → i ≠ q → g' i = g i) → g' q = g q + x → sm g' n = sm g n + x
  | 0, h, _, _ => absurd h (by omega)
  | n + 1, hq, h, hx => by
    simp only [sm]
    by_cases e : q = n
    · subst e
      rw [sm_congr (fun i hi => h i (by omega) (by omega)), hx]
      omega
    · rw [sm_one (n := n) (by omega) (fun i hi => h i (by omega)) hx, h n (by omega) (by omega)]
      omega
theorem bs_set {p p' : Nat → Bool} {q : Nat} : ∀ {n : Nat}, q < n → (∀ i, i < n → i ≠ q → p' i = p i) → p' q = true → bs p n ||| 2 ^ q = bs p' n := by
  intro n hq h ht
  apply Nat.eq_of_testBit_eq
  intro i
  rw [Nat.testBit_or, bs_test, bs_test, Nat.testBit_two_pow]
  by_cases e : i = q
  · subst e; simp [hq, ht]
  · have e' : ¬ q = i := fun h => e h.symm
    by_cases hi : i < n
    · simp [hi, h i hi e, e']
    · simp [hi, e']
theorem m_laceLength {R : Nat → Nat → Nat} (hR : rvOK R) {M : Nat} (hM : M < 2 ^ 31) {at_ w : Nat → Int32} (ha : rw_ (R 0 1) at_ (R 4)) (hw : rw_ (R 0 0) w (wN R M)) : f_X12_laceLength (nI M) (nI (R 0 1)) at_ w = some (nI (lwN R M)) := by
  have hk := hR.1.2.2.1
  have hn := hR.1.2.1
  unfold f_X12_laceLength
  refine loopK (σ := Int32 × Int32 × Int32) (F := fun n x => f_X12_laceLength_L7 (fun x => some x) (nI M) (nI (R 0 1)) at_ w n x.1 x.2.1 x.2.2) (P := fun j x => x.2.2 = nI j ∧ x.1 = nI (bs (fun r => hasL R M r j) (R 0 0)) ∧ x.2.1 = nI (sm (fun r => if hasL R M r j = true then wN R M r else 0) (R 0 0))) (a := 0) (N := R 0 1) (fuel := 2000) (s := (0, 0, 0)) ?_ (Nat.zero_le _) ?_ (by omega) ⟨rfl, ?_, ?_⟩
  · rintro m ⟨y1, y2, y3⟩ ⟨z1, z2, z3⟩ e
    dsimp only at z1 z2 z3 e
    subst z1; subst z2; subst z3
    rw [e, f_X12_laceLength_L7, if_pos (nI_le (by omega) (by omega))]; rfl
  · rintro m j ⟨y1, y2, y3⟩ - hj ⟨z1, z2, z3⟩
    dsimp only at z1 z2 z3 ⊢
    subst z1; subst z2; subst z3
    have h4 := (hR.2.2.1 j hj).1
    rw [f_X12_laceLength_L7, if_neg (nI_ge (by omega) (by omega)), bit_nI hM (by omega), bind_some', nI_1]
    have hno : ∀ r, r ≠ R 4 j → hasL R M r (j + 1) = hasL R M r j := by
      intro r hr
      simp [hasL, Ne.symm hr]
    by_cases hl : M.testBit j = true
    · simp only [if_pos hl, if_neg one_ne, inb_nI (show j < 7 by omega) (by decide), inb_nI (show R 4 j < 6 by omega) (by decide), gd_true, nm_eq, nI_clamp (show j < 2 ^ 31 by omega), nI_clamp (show R 4 j < 2 ^ 31 by omega), ha j hj, hw _ h4]
      rw [bit_nI (bs6 (show R 0 0 ≤ 7 by omega)) (by omega), bind_some', bs_test]
      have ht : hasL R M (R 4 j) (j + 1) = true := by simp [hasL, hl]
      by_cases hs : hasL R M (R 4 j) j = true
      · rw [if_pos (show (decide (R 4 j < R 0 0) && hasL R M (R 4 j) j) = true by simp [h4, hs]), if_neg one_ne]
        refine ⟨(_, _, _), ⟨rfl, ?_, ?_⟩, rfl⟩
        · show nI (bs (fun r => hasL R M r j) (R 0 0)) = nI (bs (fun r => hasL R M r (j + 1)) (R 0 0))
          refine congrArg nI ?_
          refine bs_congr (fun i hi => ?_)
          by_cases e : i = R 4 j
          · subst e; rw [ht, hs]
          · rw [hno i e]
        · show nI (sm (fun r => if hasL R M r j = true then wN R M r else 0) (R 0 0)) = nI (sm (fun r => if hasL R M r (j + 1) = true then wN R M r else 0) (R 0 0))
          refine congrArg nI ?_
          refine sm_congr (fun i hi => ?_)
          by_cases e : i = R 4 j
          · subst e; rw [ht, hs]
          · rw [hno i e]
      · rw [if_neg (show ¬ (decide (R 4 j < R 0 0) && hasL R M (R 4 j) j) = true by simp [h4, hs]), if_pos rfl, s_l' _ (by omega), nI_or, nI_add]
        refine ⟨(_, _, _), ⟨rfl, ?_, ?_⟩, rfl⟩
        · show nI (bs (fun r => hasL R M r j) (R 0 0) ||| 2 ^ R 4 j) = nI (bs (fun r => hasL R M r (j + 1)) (R 0 0))
          refine congrArg nI ?_
          exact bs_set h4 (fun i _ e => hno i e) ht
        · show nI (sm (fun r => if hasL R M r j = true then wN R M r else 0) (R 0 0) + wN R M (R 4 j)) = nI (sm (fun r => if hasL R M r (j + 1) = true then wN R M r else 0) (R 0 0))
          refine congrArg nI ?_
          refine (sm_one h4 (fun i _ e => ?_) ?_).symm
          · (try dsimp only); rw [hno i e]
          · (try dsimp only); rw [if_pos ht, if_neg hs, Nat.zero_add]
    · rw [if_neg hl, if_pos rfl]
      have hsame : ∀ r, hasL R M r (j + 1) = hasL R M r j := by
        intro r; simp [hasL, hl]
      refine ⟨(_, _, _), ⟨rfl, ?_, ?_⟩, rfl⟩
      · show nI (bs (fun r => hasL R M r j) (R 0 0)) = nI (bs (fun r => hasL R M r (j + 1)) (R 0 0))
        refine congrArg nI ?_
        exact bs_congr (fun i _ => (hsame i).symm)
      · show nI (sm (fun r => if hasL R M r j = true then wN R M r else 0) (R 0 0)) = nI (sm (fun r => if hasL R M r (j + 1) = true then wN R M r else 0) (R 0 0))
        refine congrArg nI ?_
        refine sm_congr (fun i _ => ?_)
        rw [hsame i]
  · show (0 : Int32) = nI (bs (fun r => hasL R M r 0) (R 0 0))
    have : ∀ n, bs (fun r => hasL R M r 0) n = 0 := by
      intro n
      induction n with
      | zero => rfl
      | succ n ih => rw [bs, ih]; rfl
    rw [this]; rfl
  · show (0 : Int32) = nI (sm (fun r => if hasL R M r 0 = true then wN R M r else 0) (R 0 0))
    have : ∀ n, sm (fun r => if hasL R M r 0 = true then wN R M r else 0) n = 0 := by
      intro n
      induction n with
      | zero => rfl
      | succ n ih => rw [sm, ih]; rfl
    rw [this]; rfl
theorem m_isLacing {R : Nat → Nat → Nat} (hR : rvOK R) {M L U f sd : Nat} (hM : M < 2 ^ R 0 1) (hf : f < 2 ^ 16) {V : Nat → Nat} {kind wide bank at_ pulls : Nat → Int32} (T : tR R kind wide bank at_ pulls) {bears v : Nat → Int32} (hb : rw_ (R 0 1) bears (R 6)) (hv : vR (R 0 1) v L U f sd V) (hV : ∀ j, j < R 0 1 → V j < 2 ^ 20) (wi wa de sp : Nat → Int32) (be : Int32) :
    ∃ wi' wa' de' sp' be', f_X12_isLacing (nI M) (nI (R 0 5)) (nI (R 0 0)) (nI (R 0 1)) kind wide bank at_ pulls bears v wi wa de sp be = some (if hlB R f V M = true then 1 else 0, wi', wa', de', sp', be') ∧ rw_ (R 0 0) wi' (wN R M) := by
  have hn := hR.1.2.1
  have hk := hR.1.2.2.1
  have hM31 := pow_k hk hM
  have h5 : R 0 5 < 2 ^ 31 := Nat.lt_of_le_of_lt hR.1.2.2.2.2.2.2.2.2 (by decide)
  have hD : ∀ r, r < R 0 0 → dp R (wN R M) f r < 2 ^ 20 := fun r _ => Nat.lt_of_le_of_lt (dp_le R (wN R M) f r) (by omega)
  obtain ⟨c1, c2, c3, c4, c5, e, hwi, hwa, hde, hsp, hbe⟩ := m_runs hR hM31 hf T.kind T.wide T.bank T.at_ T.pulls wi wa de sp be
  refine ⟨c1, c2, c3, c4, c5, ?_, hwi⟩
  unfold f_X12_isLacing
  rw [show inb 14 16 = true by decide, gd_true, show v (14 : Int32).toNatClampNeg = nI f from hv.2.2.1, e, bind_some']
  (try dsimp only)
  rw [m_unlawful hn h5 hwi (fun r hr => (wN_le hR M hr).2), bind_some', m_spilling hn hsp (fun r _ => Nat.lt_of_le_of_lt (sl_le R (wN R M) f r) (by omega)), m_bursting hR hM31 hD hV hde T.at_ hb hv.2.1]
  simp only [bind_some', nI_z (bs6 (show R 0 0 ≤ 7 by omega)), nI_z (bs6 hk)]
  unfold hlB
  by_cases a1 : bs (lawB (R 0 5) (wN R M)) (R 0 0) = 0
  · rw [if_pos a1]
    by_cases a2 : bs (fun r => decide (0 < sl R (wN R M) f r)) (R 0 0) = 0
    · rw [if_pos a2]
      by_cases a3 : bs (buB R M (dp R (wN R M) f) V) (R 0 1) = 0
      · rw [if_pos a3]; simp [a1, a2, a3]
      · rw [if_neg a3]; simp [a3]
    · rw [if_neg a2]; simp [a2]
  · rw [if_neg a1]; simp [a1]
theorem vR_burst {k : Nat} (hk : k ≤ 7) {v : Nat → Int32} {L U f sd : Nat} {V : Nat → Nat} (h : vR k v L U f sd V) (hU : U < 2 ^ k) (hdj : dj L U) : f_X12_ropesIn 2 (nI k) v = some (nI U) := by
  have := m_ropesIn hk (A := fun j => if L.testBit j = true then 1 else if U.testBit j = true then 2 else 0) (fun j hj => h.1 j hj) (fun j _ => by
    show (if L.testBit j = true then 1 else if U.testBit j = true then 2 else 0) < 2 ^ 31
    split
    · decide
    · split <;> decide) (x := 2) (by decide)
  rw [show (2 : Int32) = nI 2 from rfl, this]
  refine congrArg (fun x => some (nI x)) (Eq.trans (bs_congr (fun j _ => ?_)) (bs_self hU))
  by_cases h1 : L.testBit j = true
  · have h2 : ¬ U.testBit j = true := fun h2 => hdj j h1 h2
    simp [h1, h2]
  · by_cases h2 : U.testBit j = true <;> simp [h1, h2]
theorem m_B103 {R : Nat → Nat → Nat} (hR : rvOK R) {M : Nat} (hM : M < 2 ^ R 0 1) {at_ w : Nat → Int32} (ha : rw_ (R 0 1) at_ (R 4)) (hw : rw_ (R 0 0) w (wN R M)) {c b s : Nat} (hb1 : b < 128) (hs1 : s ≤ 240) {K : Int32 → (Nat → Int32) → (Nat → Int32) → (Nat → Int32) → (Nat → Int32) → Int32 → Int32 → Int32 → Int32 → Int32 → Option ((Nat → Int32) × (Nat → Int32) × (Nat → Int32) × (Nat → Int32) × Int32 × Int32 × Int32 × Int32 × Int32)} (wa de sp : (Nat → Int32)) (be fw mn : Int32) :
    f_X12_laces_B103 K (nI (R 0 1)) at_ (nI M) w wa de sp be fw (e2 c b) (e2 c s) mn = K (nI (M + 1)) w wa de sp be fw (nI (if c = 0 ∨ lwN R M < s then M else b)) (nI (if c = 0 ∨ lwN R M < s then lwN R M else s)) mn := by
  have hk := hR.1.2.2.1
  have hlb := lwN_le hR M
  unfold f_X12_laces_B103
  rw [m_laceLength hR (pow_k hk hM) ha hw, bind_some', nI_1]
  by_cases h0 : c = 0
  · have eb : e2 c b = -2 := if_pos h0
    rw [if_pos eb, if_pos (Or.inl h0), if_pos (Or.inl h0)]
  · have es : e2 c s = nI s := if_neg h0
    have eb : e2 c b = nI b := if_neg h0
    rw [es, eb, if_neg (nI_m2 (by omega))]
    by_cases h2 : lwN R M < s
    · rw [if_pos (nI_lt h2 (by omega)), if_pos (Or.inr h2), if_pos (Or.inr h2)]
    · have h3 : ¬ (c = 0 ∨ lwN R M < s) := by omega
      rw [if_neg (nI_nlt (by omega) (by omega)), if_neg h3, if_neg h3]
/-- laces -/
theorem m_laces {R : Nat → Nat → Nat} (hR : rvOK R) {L U f sd : Nat} (hU : U < 2 ^ R 0 1) (hdj : dj L U) (hf : f < 2 ^ 16) {V : Nat → Nat} {kind wide bank at_ pulls : Nat → Int32} (T : tR R kind wide bank at_ pulls) {bears v : Nat → Int32} (hb : rw_ (R 0 1) bears (R 6)) (hv : vR (R 0 1) v L U f sd V) (hV : ∀ j, j < R 0 1 → V j < 2 ^ 20) (wi wa de sp : Nat → Int32) (be a0 b0 s0 c0 : Int32) :
    ∃ wi' wa' de' sp' be', f_X12_laces (nI (R 0 5)) (nI (R 0 0)) (nI (R 0 1)) kind wide bank at_ pulls bears v wi wa de sp be a0 b0 s0 c0 = some (wi', wa', de', sp', be', e2 (lc R U f V (2 ^ R 0 1)).1 (lc R U f V (2 ^ R 0 1)).2.1, e2 (lc R U f V (2 ^ R 0 1)).1 (lc R U f V (2 ^ R 0 1)).2.2.1, e2 (lc R U f V (2 ^ R 0 1)).1 (lc R U f V (2 ^ R 0 1)).2.2.2, nI (lc R U f V (2 ^ R 0 1)).1) := by
  have hn := hR.1.2.1
  have hk := hR.1.2.2.1
  have h128 : 2 ^ R 0 1 ≤ 2 ^ 7 := Nat.pow_le_pow_right (by decide) hk
  unfold f_X12_laces
  rw [vR_burst hk hv hU hdj, bind_some']
  refine loopK (σ := Int32 × (Nat → Int32) × (Nat → Int32) × (Nat → Int32) × (Nat → Int32) × Int32 × Int32 × Int32 × Int32 × Int32) (F := fun n x => f_X12_laces_L35 (fun x1 x2 x3 x4 x5 x6 x7 x8 x9 => some (x1, x2, x3, x4, x5, x6, x7, x8, x9)) (nI U) (nI (R 0 5)) (nI (R 0 0)) (nI (R 0 1)) kind wide bank at_ pulls bears v n x.1 x.2.1 x.2.2.1 x.2.2.2.1 x.2.2.2.2.1 x.2.2.2.2.2.1 x.2.2.2.2.2.2.1 x.2.2.2.2.2.2.2.1 x.2.2.2.2.2.2.2.2.1 x.2.2.2.2.2.2.2.2.2) (P := fun M x => x.1 = nI M ∧ x.2.2.2.2.2.2.1 = e2 (lc R U f V M).1 (lc R U f V M).2.1 ∧ x.2.2.2.2.2.2.2.1 = e2 (lc R U f V M).1 (lc R U f V M).2.2.1 ∧ x.2.2.2.2.2.2.2.2.1 = e2 (lc R U f V M).1 (lc R U f V M).2.2.2 ∧ x.2.2.2.2.2.2.2.2.2 = nI (lc R U f V M).1) (a := 0) (N := 2 ^ R 0 1) (fuel := 2000) (s := (0, wi, wa, de, sp, be, -2, -2, -2, 0)) ?_ (Nat.zero_le _) ?_ (by omega) ⟨rfl, rfl, rfl, rfl, rfl⟩
  · rintro m ⟨y1, y2, y3, y4, y5, y6, y7, y8, y9, y10⟩ ⟨z1, z2, z3, z4, z5⟩ e
    dsimp only at z1 z2 z3 z4 z5 e
    subst z1; subst z2; subst z3; subst z4; subst z5
    rw [e, f_X12_laces_L35, s_l' _ (by omega), if_pos (nI_le (by omega) (by omega))]
    exact ⟨_, _, _, _, _, rfl⟩
  · rintro m M ⟨y1, y2, y3, y4, y5, y6, y7, y8, y9, y10⟩ - hM ⟨z1, z2, z3, z4, z5⟩
    dsimp only at z1 z2 z3 z4 z5 ⊢
    subst z1; subst z2; subst z3; subst z4; subst z5
    obtain ⟨l1, l2, l3, l4⟩ := lc_le hR U f V M
    have hp1 := pc_le M
    have hp2 := pc_le (lc R U f V M).2.1
    rw [f_X12_laces_L35, s_l' _ (by omega), if_neg (nI_ge (by omega) (by omega)), nI_and, nI_1]
    have hau : M &&& U < 2 ^ 31 := Nat.lt_of_le_of_lt Nat.and_le_left (by omega)
    by_cases hu : M &&& U = 0
    · rw [if_pos (show nI (M &&& U) = 0 from (nI_z hau).mpr hu)]
      obtain ⟨c1, c2, c3, c4, c5, e, q⟩ := m_isLacing hR hM hf T hb hv hV y2 y3 y4 y5 y6
      rw [e, bind_some']
      (try dsimp only)
      by_cases hh : hlB R f V M = true
      · rw [if_pos hh, if_neg one_ne, nm_eq, nI_1]
        unfold f_X12_laces_B98
        rw [m_B103 hR hM T.at_ q (by omega) l4, m_B103 hR hM T.at_ q (by omega) l4]
        by_cases h0 : (lc R U f V M).1 = 0
        · rw [if_pos (show e2 (lc R U f V M).1 (lc R U f V M).2.1 = -2 from if_pos h0)]
          refine ⟨(_, _, _, _, _, _, _, _, _, _), ?_, rfl⟩
          (try dsimp only)
          rw [lc_in hu hh]
          refine ⟨rfl, ?_, e2_T R M _ _, e2_T R M _ _, rfl⟩
          refine Eq.trans ?_ (e2_T R M _ _)
          show nI M = nI (if (lc R U f V M).1 = 0 ∨ pc M < pc (lc R U f V M).2.1 then M else (lc R U f V M).2.1)
          rw [if_pos (Or.inl h0)]
        · have ea : e2 (lc R U f V M).1 (lc R U f V M).2.1 = nI (lc R U f V M).2.1 := if_neg h0
          rw [ea, if_neg (nI_m2 (by omega)), bits_nI M (by omega), bits_nI _ (by omega), bind_some', bind_some']
          by_cases h1 : pc M < pc (lc R U f V M).2.1
          · rw [if_neg (nI_ge h1 (by omega))]
            refine ⟨(_, _, _, _, _, _, _, _, _, _), ?_, rfl⟩
            (try dsimp only)
            rw [lc_in hu hh]
            refine ⟨rfl, ?_, e2_T R M _ _, e2_T R M _ _, rfl⟩
            refine Eq.trans ?_ (e2_T R M _ _)
            show nI M = nI (if (lc R U f V M).1 = 0 ∨ pc M < pc (lc R U f V M).2.1 then M else (lc R U f V M).2.1)
            rw [if_pos (Or.inr h1)]
          · rw [if_pos (nI_le (by omega) (by omega))]
            refine ⟨(_, _, _, _, _, _, _, _, _, _), ?_, rfl⟩
            (try dsimp only)
            rw [lc_in hu hh]
            refine ⟨rfl, ?_, e2_T R M _ _, e2_T R M _ _, rfl⟩
            refine Eq.trans ?_ (e2_T R M _ _)
            show nI (lc R U f V M).2.1 = nI (if (lc R U f V M).1 = 0 ∨ pc M < pc (lc R U f V M).2.1 then M else (lc R U f V M).2.1)
            rw [if_neg (fun h => h.elim h0 h1)]
      · rw [if_neg hh, if_pos rfl]
        refine ⟨(_, _, _, _, _, _, _, _, _, _), ?_, rfl⟩
        (try dsimp only)
        rw [lc_o2 hh]
        exact ⟨rfl, rfl, rfl, rfl, rfl⟩
    · rw [if_neg (fun h => hu ((nI_z hau).mp h))]
      refine ⟨(_, _, _, _, _, _, _, _, _, _), ?_, rfl⟩
      (try dsimp only)
      rw [lc_o1 hu]
      exact ⟨rfl, rfl, rfl, rfl, rfl⟩
theorem j_lacing {R : Nat → Nat → Nat} (hR : rvOK R) {L U f sd : Nat} {V : Nat → Nat} (hU : U < 2 ^ R 0 1) (hdj : dj L U) (hf : f < 2 ^ 16) {kind wide bank at_ pulls kind2 wide2 bank2 at2 pulls2 v : Nat → Int32} (T : tR R kind wide bank at_ pulls) (T2 : tR R kind2 wide2 bank2 at2 pulls2) (hv : vR (R 0 1) v L U f sd V) {bears bears2 wear : Nat → Int32} (hb : rw_ (R 0 1) bears (R 6)) (hb2 : rw_ (R 0 1) bears2 (R 6)) (hwr : rw_ (R 0 1) wear V) (hV : ∀ j, j < R 0 1 → V j < 2 ^ 20) (w co de sp ha : Nat → Int32) (be al si c0 a0 b0 s0 tr : Int32) (th tr2 wh : Int32) (wi wa de2 sp2 : Nat → Int32) (be2 a2 b2 s2 c2 : Int32) :
    ∃ o o2, f_X10_lacing (nI U) (nI f) wear w co de sp ha be al si c0 a0 b0 s0 (nI (R 0 5)) (nI (R 0 0)) (nI (R 0 1)) kind wide bank at_ pulls bears tr = some o ∧ f_X12_lacing th tr2 wh (nI (R 0 5)) (nI (R 0 0)) (nI (R 0 1)) kind2 wide2 bank2 at2 pulls2 bears2 v wi wa de2 sp2 be2 a2 b2 s2 c2 = some o2 ∧ o2.1 = o.1 ∧ o2.2.1 = 0 ∧ o2.2.2.1 = o.2.2.2.2.2.2.2.2.2.2.2.2.2 ∧ o2.2.2.2.1 = -1 ∧ o.2.2.2.2.2.2.2.2.2.2.2.2.2 = 0 := by
  obtain ⟨k1, k2, k3, k4, k5, k6, k7, k8, e⟩ := s_search hR hU hf T hb hwr hV w co de sp ha be al si c0 a0 b0 s0
  obtain ⟨m1, m2, m3, m4, m5, em⟩ := m_laces hR hU hdj hf T2 hb2 hv hV wi wa de2 sp2 be2 a2 b2 s2 c2
  unfold f_X10_lacing f_X12_lacing
  rw [s_noRiver hR, bind_some', if_pos rfl, e, bind_some', em, bind_some']
  exact ⟨_, _, rfl, rfl, rfl, rfl, rfl, rfl, rfl⟩
theorem j_length {R : Nat → Nat → Nat} (hR : rvOK R) {L U f sd : Nat} {V : Nat → Nat} (hU : U < 2 ^ R 0 1) (hdj : dj L U) (hf : f < 2 ^ 16) {kind wide bank at_ pulls kind2 wide2 bank2 at2 pulls2 v : Nat → Int32} (T : tR R kind wide bank at_ pulls) (T2 : tR R kind2 wide2 bank2 at2 pulls2) (hv : vR (R 0 1) v L U f sd V) {bears bears2 wear : Nat → Int32} (hb : rw_ (R 0 1) bears (R 6)) (hb2 : rw_ (R 0 1) bears2 (R 6)) (hwr : rw_ (R 0 1) wear V) (hV : ∀ j, j < R 0 1 → V j < 2 ^ 20) (w co de sp ha : Nat → Int32) (be al si c0 a0 b0 s0 tr : Int32) (th tr2 wh : Int32) (wi wa de2 sp2 : Nat → Int32) (be2 a2 b2 s2 c2 : Int32) :
    ∃ o o2, f_X10_length (nI U) (nI f) wear w co de sp ha be al si c0 a0 b0 s0 (nI (R 0 5)) (nI (R 0 0)) (nI (R 0 1)) kind wide bank at_ pulls bears tr = some o ∧ f_X12_length th tr2 wh (nI (R 0 5)) (nI (R 0 0)) (nI (R 0 1)) kind2 wide2 bank2 at2 pulls2 bears2 v wi wa de2 sp2 be2 a2 b2 s2 c2 = some o2 ∧ o2.1 = o.1 ∧ o2.2.1 = 0 ∧ o2.2.2.1 = o.2.2.2.2.2.2.2.2.2.2.2.2.2 ∧ o2.2.2.2.1 = -1 ∧ o.2.2.2.2.2.2.2.2.2.2.2.2.2 = 0 := by
  obtain ⟨k1, k2, k3, k4, k5, k6, k7, k8, e⟩ := s_search hR hU hf T hb hwr hV w co de sp ha be al si c0 a0 b0 s0
  obtain ⟨m1, m2, m3, m4, m5, em⟩ := m_laces hR hU hdj hf T2 hb2 hv hV wi wa de2 sp2 be2 a2 b2 s2 c2
  unfold f_X10_length f_X12_length
  rw [s_noRiver hR, bind_some', if_pos rfl, e, bind_some', em, bind_some']
  exact ⟨_, _, rfl, rfl, rfl, rfl, rfl, rfl, rfl⟩
theorem j_lengthSum {R : Nat → Nat → Nat} (hR : rvOK R) {L U f sd : Nat} {V : Nat → Nat} (hU : U < 2 ^ R 0 1) (hdj : dj L U) (hf : f < 2 ^ 16) {kind wide bank at_ pulls kind2 wide2 bank2 at2 pulls2 v : Nat → Int32} (T : tR R kind wide bank at_ pulls) (T2 : tR R kind2 wide2 bank2 at2 pulls2) (hv : vR (R 0 1) v L U f sd V) {bears bears2 wear : Nat → Int32} (hb : rw_ (R 0 1) bears (R 6)) (hb2 : rw_ (R 0 1) bears2 (R 6)) (hwr : rw_ (R 0 1) wear V) (hV : ∀ j, j < R 0 1 → V j < 2 ^ 20) (w co de sp ha : Nat → Int32) (be al si c0 a0 b0 s0 tr : Int32) (th tr2 wh : Int32) (wi wa de2 sp2 : Nat → Int32) (be2 a2 b2 s2 c2 : Int32) :
    ∃ o o2, f_X10_lengthSum (nI U) (nI f) wear w co de sp ha be al si c0 a0 b0 s0 (nI (R 0 5)) (nI (R 0 0)) (nI (R 0 1)) kind wide bank at_ pulls bears tr = some o ∧ f_X12_lengthSum th tr2 wh (nI (R 0 5)) (nI (R 0 0)) (nI (R 0 1)) kind2 wide2 bank2 at2 pulls2 bears2 v wi wa de2 sp2 be2 a2 b2 s2 c2 = some o2 ∧ o2.1 = o.1 ∧ o2.2.1 = 0 ∧ o2.2.2.1 = o.2.2.2.2.2.2.2.2.2.2.2.2.2 ∧ o2.2.2.2.1 = -1 ∧ o.2.2.2.2.2.2.2.2.2.2.2.2.2 = 0 := by
  obtain ⟨k1, k2, k3, k4, k5, k6, k7, k8, e⟩ := s_search hR hU hf T hb hwr hV w co de sp ha be al si c0 a0 b0 s0
  obtain ⟨m1, m2, m3, m4, m5, em⟩ := m_laces hR hU hdj hf T2 hb2 hv hV wi wa de2 sp2 be2 a2 b2 s2 c2
  unfold f_X10_lengthSum f_X12_lengthSum
  rw [s_noRiver hR, bind_some', if_pos rfl, e, bind_some', em, bind_some']
  exact ⟨_, _, rfl, rfl, rfl, rfl, rfl, rfl, rfl⟩
theorem j_lacings {R : Nat → Nat → Nat} (hR : rvOK R) {L U f sd : Nat} {V : Nat → Nat} (hU : U < 2 ^ R 0 1) (hdj : dj L U) (hf : f < 2 ^ 16) {kind wide bank at_ pulls kind2 wide2 bank2 at2 pulls2 v : Nat → Int32} (T : tR R kind wide bank at_ pulls) (T2 : tR R kind2 wide2 bank2 at2 pulls2) (hv : vR (R 0 1) v L U f sd V) {bears bears2 wear : Nat → Int32} (hb : rw_ (R 0 1) bears (R 6)) (hb2 : rw_ (R 0 1) bears2 (R 6)) (hwr : rw_ (R 0 1) wear V) (hV : ∀ j, j < R 0 1 → V j < 2 ^ 20) (w co de sp ha : Nat → Int32) (be al si c0 a0 b0 s0 tr : Int32) (th tr2 wh : Int32) (wi wa de2 sp2 : Nat → Int32) (be2 a2 b2 s2 c2 : Int32) :
    ∃ o o2, f_X10_lacings (nI U) (nI f) wear w co de sp ha be al si c0 a0 b0 s0 (nI (R 0 5)) (nI (R 0 0)) (nI (R 0 1)) kind wide bank at_ pulls bears tr = some o ∧ f_X12_lacings th tr2 wh (nI (R 0 5)) (nI (R 0 0)) (nI (R 0 1)) kind2 wide2 bank2 at2 pulls2 bears2 v wi wa de2 sp2 be2 a2 b2 s2 c2 = some o2 ∧ o2.1 = o.1 ∧ o2.2.1 = 0 ∧ o2.2.2.1 = o.2.2.2.2.2.2.2.2.2.2.2.2.2 ∧ o2.2.2.2.1 = -1 ∧ o.2.2.2.2.2.2.2.2.2.2.2.2.2 = 0 := by
  obtain ⟨k1, k2, k3, k4, k5, k6, k7, k8, e⟩ := s_search hR hU hf T hb hwr hV w co de sp ha be al si c0 a0 b0 s0
  obtain ⟨m1, m2, m3, m4, m5, em⟩ := m_laces hR hU hdj hf T2 hb2 hv hV wi wa de2 sp2 be2 a2 b2 s2 c2
  unfold f_X10_lacings f_X12_lacings
  rw [s_noRiver hR, bind_some', if_pos rfl, e, bind_some', em, bind_some']
  exact ⟨_, _, rfl, rfl, rfl, rfl, rfl, rfl, rfl⟩
